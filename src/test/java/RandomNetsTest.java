import java.util.Random;

/** Random nets: every answer of the class against that of the plainest way. */
public final class RandomNetsTest {
    private static final Checks checks = new Checks("RandomNetsTest");

    public static void main(String[] args) {
        int many = args.length > 0 ? Integer.parseInt(args[0]) : 150;
        Random random = new Random(args.length > 1 ? Integer.parseInt(args[1]) : 20261118);
        TellFirst x = new TellFirst();
        for (int i = 0; i < many; i++) {
            boolean big = i % 10 == 0;
            Plain net = Plain.random(random, big ? 12 : 7, big ? 8 : 6);
            // An object is used for 512 calls; the state of one net must not reach into the next.
            x = i % 3 == 0 ? new TellFirst() : x;
            checks.due(x, net.text, Checks.net(x, net.text), net.n, 0);
            for (int p = 0; p < net.n; p++) {
                if (random.nextInt(10) == 0) {
                    net.stubborn[p] = !net.stubborn[p];
                    checks.due(x, "refuse", x.refuse(p, net.stubborn[p]), true, 0);
                }
            }
            data(x, net);
            lots(x, net, random);
            if (net.n <= 9) {
                chosen(x, net, random);
            }
            fights(x, net, random);
            sources(x, net, random);
            runs(x, net, random);
            leads(x, net, random);
        }
        checks.end();
    }

    private static void data(TellFirst x, Plain net) {
        for (int p = 0; p < net.n; p++) {
            int[] want = {net.valley[p], net.needs[p], net.late[p], net.stubborn[p] ? 1 : 0, net.costs[p]};
            for (int w = 0; w < 5; w++) {
                checks.due(x, "person " + net.text, x.person(p, w), want[w], 0);
            }
        }
        checks.due(x, "ties " + net.text, x.many(1), net.m, 0);
        for (int t = 0; t < net.m; t++) {
            int[] want = {net.from[t], net.to[t], net.odds[t], net.hours[t]};
            for (int w = 0; w < 4; w++) {
                checks.due(x, "tie " + net.text, x.tie(t, w), want[w], 0);
            }
        }
    }

    private static void lots(TellFirst x, Plain net, Random random) {
        for (int i = 0; i < 8; i++) {
            int lot = random.nextInt(1 << net.m);
            int seeds = random.nextInt(1 << net.n) & random.nextInt(1 << net.n);
            int person = random.nextInt(net.n);
            int k = random.nextInt(10000);
            int n = 1 + random.nextInt(500);
            checks.due(x, "weight " + net.text, x.weight(lot), net.weight(lot), 0);
            checks.due(x, "reached " + net.text, x.reached(seeds, lot), net.reached(seeds, lot), 0);
            checks.due(x, "backWalk " + net.text, x.backWalk(person, lot), net.backWalk(person, lot), 0);
            checks.due(x, "spread", x.spread(seeds, lot), true, 0);
            checks.fraction(x, "spread " + seeds + " " + net.text, net.spread(seeds, lot), net.whole());
            checks.due(x, "adds", x.adds(seeds, person), true, 0);
            checks.fraction(x, "adds " + net.text,
                net.spread(seeds | 1 << person, 0) - net.spread(seeds, 0), net.whole());
            checks.due(x, "lot " + net.text, x.lot(k), net.lot(k), 0);
            if (i < 2) {
                checks.due(x, "meter " + net.text, x.meter(seeds, n), net.meter(seeds, n), 0);
            }
        }
    }

    private static void chosen(TellFirst x, Plain net, Random random) {
        int many = 1 + random.nextInt(4);
        int purse = random.nextInt(3) == 0 ? 999 : random.nextInt(9);
        String what = many + " for " + purse + " of " + net.text;
        int greedy = net.greedy(many, purse);
        checks.due(x, "greedy " + what, x.greedy(many, purse), greedy, 0);
        checks.fraction(x, "greedy " + what, net.spread(greedy, 0), net.whole());
        int best = net.best(many, purse);
        checks.due(x, "best " + what, x.best(many, purse), best, 0);
        checks.fraction(x, "best " + what, net.spread(best, 0), net.whole());
        checks.due(x, "bound " + what, x.bound(many, purse), true, 0);
        checks.fraction(x, "bound " + what, net.bound(many, purse), net.whole());
        long[] seen = net.seen();
        checks.due(x, "seen " + what, x.rounds(0), seen[0], 0);
        checks.fraction(x, "seen " + what, seen[1], net.whole());
        int blind = net.blind();
        checks.due(x, "blind " + what, x.rounds(1), blind, 0);
        checks.fraction(x, "blind " + what, net.spread(blind, 0), net.whole());
        checks.due(x, "above blind " + what, x.rounds(2), blind, 0);
        checks.fraction(x, "above blind " + what, seen[1] - net.spread(blind, 0), net.whole());
        int seeds = random.nextInt(1 << net.n);
        int ties = random.nextInt(4);
        int stops = net.stops(seeds, ties);
        checks.due(x, "stops " + what, x.stops(seeds, ties), stops, 0);
        checks.fraction(x, "stops " + what, net.spread(seeds, stops), net.whole());
    }

    private static void fights(TellFirst x, Plain net, Random random) {
        for (int i = 0; i < 4; i++) {
            int red = random.nextInt(1 << net.n) & random.nextInt(1 << net.n);
            int blue = random.nextInt(1 << net.n) & random.nextInt(1 << net.n);
            int hour = random.nextInt(2) == 0 ? random.nextInt(21) : random.nextInt(4);
            for (int what = 0; what < 2; what++) {
                checks.due(x, "fight", x.fight(red, blue, hour, what), true, 0);
                checks.fraction(x, "fight " + red + " " + blue + " " + hour + " " + what + " " + net.text,
                    net.mean(red, blue, hour, what), net.whole());
            }
        }
        if (net.m > 6) {
            return;
        }
        int red = 1 << random.nextInt(net.n) | 1 << random.nextInt(net.n);
        int hour = random.nextInt(6);
        int answer = net.answer(red, hour);
        checks.due(x, "answer " + red + " " + net.text, x.answer(red, hour), answer, 0);
        checks.fraction(x, "answer " + net.text, net.mean(red, 1 << answer, hour, 1), net.whole());
        int person = random.nextInt(net.n);
        int against = random.nextInt(4) == 0 ? red : 1 << random.nextInt(net.n);
        int latest = net.latest(against, person);
        long top = x.top();
        checks.due(x, "latest " + person + " " + net.text, x.latest(against, person), latest, latest < 0 ? 9 : 0);
        checks.due("latest tells no fraction", x.top(), top);
    }

    private static void sources(TellFirst x, Plain net, Random random) {
        for (int i = 0; i < 3; i++) {
            int hour = random.nextInt(3) == 0 ? random.nextInt(150) : random.nextInt(8);
            // What is seen is what comes out in one lot, but for who is not seen.
            int[][] of = net.fight(1 << random.nextInt(net.n), 0, 0, random.nextInt(1 << net.m));
            int[] seen = new int[net.n];
            long[] row = new long[net.n];
            for (int p = 0; p < net.n; p++) {
                seen[p] = of[p][0] >= 0 && of[p][0] <= hour ? 1 : 0;
                seen[p] = random.nextInt(3) == 0 ? -1 : seen[p];
                seen[p] = random.nextInt(20) == 0 ? random.nextInt(2) : seen[p];
                row[p] = seen[p];
            }
            Checks.fill(x, i, i, row);
            long[] weights = net.sources(seen, hour);
            long all = 0;
            for (long one : weights) {
                all += one;
            }
            int person = random.nextInt(net.n);
            checks.due(x, "source " + net.text, x.source(i, hour, person), all > 0, all > 0 ? 0 : 9);
            if (all > 0) {
                checks.fraction(x, "source " + net.text, weights[person], all);
            }
        }
    }

    private static void runs(TellFirst x, Plain net, Random random) {
        int many = random.nextInt(4) == 0 ? 15 : random.nextInt(6);
        for (int r = 0; r < many; r++) {
            int[] run = new int[net.n];
            long[] row = new long[net.n + random.nextInt(3)];
            int[][] of = net.fight(1 << random.nextInt(net.n), 0, 0, random.nextInt(1 << net.m));
            for (int p = 0; p < net.n; p++) {
                run[p] = random.nextInt(4) == 0 ? random.nextInt(12) - 1 : of[p][0];
                row[p] = run[p];
            }
            Checks.fill(x, r % 4, 1 + random.nextInt(3), row);
            checks.due(x, "run", x.run(r % 4), r, 0);
            net.runs.add(run);
        }
        checks.due(x, "neverTried " + net.text, x.neverTried(), net.neverTried(), 0);
        for (int t = 0; t < net.m; t++) {
            int likeliest = net.likeliest(t);
            checks.due(x, "likeliest " + net.text, x.likeliest(t), likeliest, likeliest < 0 ? 8 : 0);
        }
        if (many > 0) {
            int r = random.nextInt(many);
            int[] run = net.runs.get(r);
            boolean can = net.ways() <= 5040;
            checks.due(x, "telling " + net.text, x.telling(r), can ? net.toldIn(run) : -1, can ? 0 : 9);
            if (can) {
                checks.fraction(x, "telling " + net.text, net.asGood(run, 0, net.toldIn(run)), net.ways());
            }
        }
    }

    private static void leads(TellFirst x, Plain net, Random random) {
        for (int i = 0; i < 4; i++) {
            int seeds = 1 << random.nextInt(net.n) | 1 << random.nextInt(net.n);
            int lot = random.nextInt(1 << net.m) | random.nextInt(1 << net.m);
            int[][] of = net.fight(seeds, 0, 0, lot);
            long[] row = new long[net.n];
            for (int p = 0; p < net.n; p++) {
                boolean took = of[p][0] >= 0;
                boolean moved = took && !Plain.in(seeds, p);
                checks.due(x, "hour " + net.text, x.lead(seeds, lot, p, 1), of[p][0], took ? 0 : 8);
                int mover = moved ? net.mover(seeds, lot, p) : -1;
                checks.due(x, "mover " + net.text, x.lead(seeds, lot, p, 0), mover, moved ? 0 : 8);
                row[p] = of[p][0];
            }
            Checks.fill(x, 0, 3, row);
            checks.due(x, "check " + net.text, x.check(seeds, lot, 0), -1, 0);
            int wrong = random.nextInt(net.n);
            x.write(0, wrong, row[wrong] + 1 + random.nextInt(5));
            checks.due(x, "check " + net.text, x.check(seeds, lot, 0), wrong, 0);
        }
    }
}
