import java.util.Random;

/** Any call with any arguments in any state answers, and what fails changes nothing but the status. */
public final class NeverThrowsTest {
    private static final Checks checks = new Checks("NeverThrowsTest");
    private static final int[] EDGES = {Integer.MIN_VALUE, -2, -1, 0, 1, 2, 3, 4, 5, 10, 11, 12, 15, 20, 21, 31, 32, 33,
        40, 41, 149, 150, 500, 501, 599, 600, 601, 999, 1000, 1023, 1024, 4095, 4096, 9999, 10000, Integer.MAX_VALUE};

    public static void main(String[] args) {
        Random random = new Random(99);
        for (int i = 0; i < 60; i++) {
            TellFirst x = new TellFirst();
            for (int k = 0; k < 512; k++) {
                if (random.nextInt(60) == 0) {
                    Checks.net(x, Plain.random(random, 12, 10).text);
                }
                int kind = random.nextInt(31);
                long top = x.top();
                long bottom = x.bottom();
                long answer = call(x, kind, random);
                checks.due("bottom above 0", x.bottom() > 0, true);
                checks.due("status can be", x.status() >= 0 && x.status() <= 11, true);
                if (kind > 1 && x.status() != 0) {
                    checks.due("none behind a failed call " + kind, answer, kind % 2 == 0 ? 0 : -1);
                    checks.due("the top stays", x.top(), top);
                    checks.due("the bottom stays", x.bottom(), bottom);
                }
            }
        }
        checks.end();
    }

    private static int any(Random random) {
        return random.nextInt(3) == 0 ? EDGES[random.nextInt(EDGES.length)] : random.nextInt(13) - 1;
    }

    /** Calls that give a boolean have even kinds, others odd ones, but for 0 and 1. */
    private static long call(TellFirst x, int kind, Random random) {
        int a = any(random);
        int b = any(random);
        int c = any(random);
        int d = any(random);
        switch (kind) {
            case 0:
                return x.feed(a, b, c, d, any(random));
            case 1:
                return random.nextBoolean() ? x.fault(a) : x.neverTried();
            case 2:
                return x.tray(a, b, c) ? 1 : 0;
            case 4:
                return x.write(a, b, c) ? 1 : 0;
            case 6:
                return x.pour(a, b, c, d, any(random)) ? 1 : 0;
            case 8:
                return x.refuse(a, random.nextBoolean()) ? 1 : 0;
            case 10:
                return x.spread(a, b) ? 1 : 0;
            case 12:
                return x.adds(a, b) ? 1 : 0;
            case 14:
                return x.bound(a, b) ? 1 : 0;
            case 16:
                return x.fight(a, b, c, d) ? 1 : 0;
            case 18:
                return x.source(a, b, c) ? 1 : 0;
            case 20:
            case 22:
            case 24:
            case 26:
            case 28:
            case 30:
                return x.tray(random.nextInt(4), random.nextInt(4), random.nextInt(41)) ? 1 : 0;
            default:
                return number(x, kind, random, a, b);
        }
    }

    private static long number(TellFirst x, int kind, Random random, int a, int b) {
        int c = any(random);
        int d = any(random);
        switch (kind) {
            case 3:
                return failedOrFine(x, x.read(a, b));
            case 5:
                return failedOrFine(x, x.net(a));
            case 7:
                return failedOrFine(x, random.nextBoolean() ? x.many(a) : x.person(a, b));
            case 9:
                return failedOrFine(x, random.nextBoolean() ? x.tie(a, b) : x.weight(a));
            case 11:
                return failedOrFine(x, random.nextBoolean() ? x.reached(a, b) : x.backWalk(a, b));
            case 13:
                return failedOrFine(x, random.nextBoolean() ? x.greedy(a, b) : x.best(a, b));
            case 15:
                return failedOrFine(x, x.rounds(a));
            case 17:
                return failedOrFine(x, random.nextBoolean() ? x.answer(a, b) : x.latest(a, b));
            case 19:
                return failedOrFine(x, x.stops(a, b));
            case 21:
                return failedOrFine(x, x.run(a));
            case 23:
                return failedOrFine(x, random.nextBoolean() ? x.likeliest(a) : x.telling(a));
            case 25:
                return failedOrFine(x, x.lead(a, b, c, d));
            case 27:
                return failedOrFine(x, x.check(a, b, c));
            default:
                return failedOrFine(x, random.nextBoolean() ? x.lot(a) : x.meter(a, b));
        }
    }

    private static long failedOrFine(TellFirst x, long answer) {
        return x.status() == 0 ? 0 : answer;
    }
}
