import java.util.ArrayList;
import java.util.HashMap;
import java.util.List;
import java.util.Map;
import java.util.Random;

/** The document's words done in the plainest way, to hold the class against. */
final class Plain {
    int n;
    int[] valley = new int[12];
    int[] needs = new int[12];
    int[] late = new int[12];
    boolean[] stubborn = new boolean[12];
    int[] costs = new int[12];
    int[] most = {12, 12, 12, 12};
    int m;
    int[] from = new int[10];
    int[] to = new int[10];
    int[] odds = new int[10];
    int[] hours = new int[10];
    String text;
    final List<int[]> runs = new ArrayList<>();

    static Plain random(Random random, int mostPeople, int mostTies) {
        Plain net = new Plain();
        StringBuilder text = new StringBuilder();
        net.n = 1 + random.nextInt(mostPeople);
        boolean simple = random.nextInt(3) == 0;
        for (int p = 0; p < net.n; p++) {
            text.append("person ").append(name(p));
            net.randomPerson(random, p, simple, text);
            text.append(";");
        }
        int tries = random.nextInt(4) == 0 ? random.nextInt(mostTies + 1) : 3 * mostTies;
        for (int i = 0; i < tries && net.m < mostTies && net.n > 1; i++) {
            net.randomTie(random, mostTies, text);
        }
        for (int v = 0; v < 4; v++) {
            if (random.nextInt(5) == 0) {
                net.most[v] = random.nextInt(3);
                text.append("valley ").append(v).append(" most ").append(net.most[v]).append(";");
            }
        }
        net.text = text.toString();
        return net;
    }

    private static String name(int p) {
        return String.valueOf((char) ('a' + p));
    }

    private void randomPerson(Random random, int p, boolean simple, StringBuilder text) {
        needs[p] = 1;
        costs[p] = 1;
        if (random.nextInt(2) == 0) {
            valley[p] = random.nextInt(4);
            text.append(" in ").append(valley[p]);
        }
        if (!simple && random.nextInt(4) == 0) {
            needs[p] = 1 + random.nextInt(3);
            text.append(" needs ").append(needs[p]);
        }
        if (!simple && random.nextInt(3) == 0) {
            late[p] = random.nextInt(6);
            text.append(" late ").append(late[p]);
        }
        if (random.nextInt(8) == 0) {
            stubborn[p] = true;
            text.append(" stubborn");
        }
        if (random.nextInt(4) == 0) {
            costs[p] = random.nextInt(6);
            text.append(" costs ").append(costs[p]);
        }
    }

    private void randomTie(Random random, int mostTies, StringBuilder text) {
        int a = random.nextInt(n);
        int b = random.nextInt(n);
        if (a == b || hasTie(a, b)) {
            return;
        }
        int o = random.nextInt(4) == 0 ? 16 * random.nextInt(2) : random.nextInt(17);
        int h = random.nextInt(2) == 0 ? 1 : 1 + random.nextInt(5);
        text.append("tie ").append(name(a)).append(" to ").append(name(b)).append(" odds ").append(o);
        if (h != 1) {
            text.append(" hours ").append(h);
        }
        addTie(a, b, o, h);
        if (random.nextInt(4) == 0 && m < mostTies && !hasTie(b, a)) {
            text.append(" back");
            addTie(b, a, o, h);
        }
        text.append(";");
    }

    private boolean hasTie(int a, int b) {
        for (int t = 0; t < m; t++) {
            if (from[t] == a && to[t] == b) {
                return true;
            }
        }
        return false;
    }

    private void addTie(int a, int b, int o, int h) {
        from[m] = a;
        to[m] = b;
        odds[m] = o;
        hours[m] = h;
        m++;
    }

    static boolean in(int set, int one) {
        return (set & 1 << one) != 0;
    }

    long weight(int lot) {
        long weight = 1;
        for (int t = 0; t < m; t++) {
            weight *= in(lot, t) ? odds[t] : 16 - odds[t];
        }
        return weight;
    }

    long whole() {
        long whole = 1;
        for (int t = 0; t < m; t++) {
            whole *= 16;
        }
        return whole;
    }

    int reached(int seeds, int lot) {
        int set = seeds;
        boolean more = true;
        while (more) {
            more = false;
            for (int p = 0; p < n; p++) {
                int told = 0;
                for (int t = 0; t < m; t++) {
                    told += in(lot, t) && to[t] == p && in(set, from[t]) ? 1 : 0;
                }
                if (!in(set, p) && !stubborn[p] && told >= needs[p]) {
                    set |= 1 << p;
                    more = true;
                }
            }
        }
        return set;
    }

    int backWalk(int person, int lot) {
        int set = 1 << person;
        for (int from = 0; from < n; from++) {
            if (leads(from, person, lot, 0)) {
                set |= 1 << from;
            }
        }
        return set;
    }

    private boolean leads(int a, int b, int lot, int gone) {
        if (stubborn[b] || in(gone, b)) {
            return false;
        }
        for (int t = 0; t < m; t++) {
            if (in(lot, t) && to[t] == b && (from[t] == a || leads(a, from[t], lot, gone | 1 << b))) {
                return true;
            }
        }
        return false;
    }

    long spread(int seeds, int closed) {
        long sum = 0;
        for (int lot = 0; lot < 1 << m; lot++) {
            sum += weight(lot) * Integer.bitCount(reached(seeds, lot & ~closed));
        }
        return sum;
    }

    boolean mayBeChosen(int set, int many, int purse) {
        int cost = 0;
        int[] there = new int[4];
        for (int p = 0; p < n; p++) {
            if (in(set, p)) {
                cost += costs[p];
                there[valley[p]]++;
            }
        }
        boolean let = true;
        for (int v = 0; v < 4; v++) {
            let &= there[v] <= most[v];
        }
        return let && cost <= purse && Integer.bitCount(set) <= many;
    }

    int greedy(int many, int purse) {
        int set = 0;
        while (Integer.bitCount(set) < many) {
            int who = -1;
            long greatest = spread(set, 0);
            for (int p = 0; p < n; p++) {
                if (!in(set, p) && mayBeChosen(set | 1 << p, many, purse) && spread(set | 1 << p, 0) > greatest) {
                    greatest = spread(set | 1 << p, 0);
                    who = p;
                }
            }
            if (who < 0) {
                break;
            }
            set |= 1 << who;
        }
        return set;
    }

    int best(int many, int purse) {
        int best = 0;
        long greatest = 0;
        for (int size = 1; size <= many; size++) {
            for (int set = 0; set < 1 << n; set++) {
                if (Integer.bitCount(set) == size && mayBeChosen(set, many, purse) && spread(set, 0) > greatest) {
                    greatest = spread(set, 0);
                    best = set;
                }
            }
        }
        return best;
    }

    long bound(int many, int purse) {
        int set = greedy(many, purse);
        List<Long> growths = new ArrayList<>();
        for (int p = 0; p < n; p++) {
            if (!in(set, p)) {
                growths.add(spread(set | 1 << p, 0) - spread(set, 0));
            }
        }
        growths.sort((x, y) -> Long.compare(y, x));
        long sum = spread(set, 0);
        for (int i = 0; i < many && i < growths.size(); i++) {
            sum += growths.get(i);
        }
        return sum;
    }

    /** The first told and the sum. */
    long[] seen() {
        long[] best = {-1, -1};
        for (int a = 0; a < n; a++) {
            Map<Integer, long[]> sums = new HashMap<>();
            for (int lot = 0; lot < 1 << m; lot++) {
                long[] row = sums.computeIfAbsent(reached(1 << a, lot), k -> new long[n]);
                for (int b = 0; b < n; b++) {
                    row[b] += weight(lot) * Integer.bitCount(reached(1 << a | 1 << b, lot));
                }
            }
            long sum = 0;
            for (long[] row : sums.values()) {
                long most = 0;
                for (long one : row) {
                    most = Math.max(most, one);
                }
                sum += most;
            }
            if (sum > best[1]) {
                best = new long[] {a, sum};
            }
        }
        return best;
    }

    int blind() {
        int best = 0;
        for (int size = 1; size <= 2; size++) {
            for (int set = 1; set < 1 << n; set++) {
                if (Integer.bitCount(set) == size && (best == 0 || spread(set, 0) > spread(best, 0))) {
                    best = set;
                }
            }
        }
        return best;
    }

    /** Of each person the hour in which it took, the colour (0 red, 1 blue) and the hour of its mind; or -1. */
    int[][] fight(int red, int blue, int hour, int lot) {
        int[][] of = new int[n][];
        for (int p = 0; p < n; p++) {
            of[p] = new int[] {-1, -1, -1};
        }
        for (int h = 0; h < 150; h++) {
            for (int p = 0; p < n; p++) {
                if (h == 0 && in(red, p)) {
                    of[p] = new int[] {0, 0, 0};
                }
                if (h == hour && in(blue, p) && of[p][1] < 0) {
                    of[p] = new int[] {h, 1, h};
                }
            }
            for (int p = 0; p < n; p++) {
                int[] told = new int[2];
                for (int t = 0; t < m; t++) {
                    int[] teller = of[from[t]];
                    if (to[t] == p && in(lot, t) && teller[0] >= 0 && teller[0] + hours[t] <= h) {
                        told[teller[1]]++;
                    }
                }
                if (!stubborn[p] && of[p][1] < 0 && told[0] + told[1] >= needs[p]) {
                    of[p] = new int[] {h + late[p], told[1] > told[0] ? 1 : 0, h};
                }
            }
        }
        return of;
    }

    long mean(int red, int blue, int hour, int what) {
        long sum = 0;
        for (int lot = 0; lot < 1 << m; lot++) {
            int count = 0;
            for (int[] one : fight(red, blue, hour, lot)) {
                count += one[1] == what ? 1 : 0;
            }
            sum += weight(lot) * count;
        }
        return sum;
    }

    int answer(int red, int hour) {
        int best = 0;
        for (int p = 1; p < n; p++) {
            if (mean(red, 1 << p, hour, 1) > mean(red, 1 << best, hour, 1)) {
                best = p;
            }
        }
        return best;
    }

    int latest(int red, int person) {
        int last = -1;
        long alone = mean(red, 0, 0, 0);
        for (int hour = 0; hour <= 20; hour++) {
            if (mean(red, 1 << person, hour, 0) * 2 <= alone) {
                last = hour;
            }
        }
        return last;
    }

    int stops(int seeds, int many) {
        int best = 0;
        long least = spread(seeds, 0);
        for (int size = 1; size <= many; size++) {
            for (int set = 1; set < 1 << m; set++) {
                if (Integer.bitCount(set) == size && spread(seeds, set) < least) {
                    least = spread(seeds, set);
                    best = set;
                }
            }
        }
        return best;
    }

    long[] sources(int[] seen, int hour) {
        long[] weights = new long[n];
        for (int p = 0; p < n; p++) {
            for (int lot = 0; lot < 1 << m; lot++) {
                int[][] of = fight(1 << p, 0, 0, lot);
                boolean comes = true;
                for (int q = 0; q < n; q++) {
                    int had = of[q][0] >= 0 && of[q][0] <= hour ? 1 : 0;
                    comes &= seen[q] == -1 || seen[q] == had;
                }
                weights[p] += comes ? weight(lot) : 0;
            }
        }
        return weights;
    }

    boolean tried(int[] run, int t) {
        boolean ahead = run[to[t]] >= 0 && run[to[t]] < run[from[t]] + hours[t];
        return run[from[t]] >= 0 && !ahead;
    }

    boolean told(int[] run, int t) {
        return run[from[t]] >= 0 && run[to[t]] >= 0 && run[to[t]] - run[from[t]] == hours[t] + late[to[t]];
    }

    int likeliest(int t) {
        int told = 0;
        int not = 0;
        for (int[] run : runs) {
            told += tried(run, t) && told(run, t) ? 1 : 0;
            not += tried(run, t) && !told(run, t) ? 1 : 0;
        }
        if (told + not == 0) {
            return -1;
        }
        int best = 0;
        java.math.BigInteger most = java.math.BigInteger.ONE.negate();
        for (int o = 0; o <= 16; o++) {
            java.math.BigInteger likely =
                java.math.BigInteger.valueOf(o).pow(told).multiply(java.math.BigInteger.valueOf(16 - o).pow(not));
            if (likely.compareTo(most) > 0) {
                most = likely;
                best = o;
            }
        }
        return best;
    }

    int neverTried() {
        int set = 0;
        for (int t = 0; t < m; t++) {
            boolean never = true;
            for (int[] run : runs) {
                never &= !tried(run, t);
            }
            set |= never ? 1 << t : 0;
        }
        return set;
    }

    int toldIn(int[] run) {
        int count = 0;
        for (int t = 0; t < m; t++) {
            count += told(run, t) ? 1 : 0;
        }
        return count;
    }

    long ways() {
        long ways = 1;
        int[] there = new int[4];
        for (int p = 0; p < n; p++) {
            there[valley[p]]++;
        }
        for (int v = 0; v < 4; v++) {
            for (int i = 2; i <= there[v]; i++) {
                ways *= i;
            }
        }
        return ways;
    }

    /** Goes on from a place in the row by swaps with later ones of its valley. */
    int asGood(int[] run, int place, int wanted) {
        if (place == n) {
            return toldIn(run) >= wanted ? 1 : 0;
        }
        int count = 0;
        for (int other = place; other < n; other++) {
            if (valley[other] == valley[place]) {
                int[] swapped = run.clone();
                swapped[place] = run[other];
                swapped[other] = run[place];
                count += asGood(swapped, place + 1, wanted);
            }
        }
        return count;
    }

    /** The tie that moved a person that took and is no seed. */
    int mover(int seeds, int lot, int person) {
        int[][] of = fight(seeds, 0, 0, lot);
        int best = -1;
        int last = -1;
        for (int t = m - 1; t >= 0; t--) {
            int[] teller = of[from[t]];
            if (to[t] == person && in(lot, t) && teller[0] >= 0) {
                int when = teller[0] + hours[t];
                if (when <= of[person][2] && when >= last) {
                    last = when;
                    best = t;
                }
            }
        }
        return best;
    }

    int lot(int k) {
        int set = 0;
        for (int t = 0; t < m; t++) {
            java.math.BigInteger draw = java.math.BigInteger.valueOf(40503).multiply(java.math.BigInteger.valueOf(k))
                .add(java.math.BigInteger.valueOf(9973L * t + 1299709)).multiply(java.math.BigInteger.valueOf(69069))
                .divide(java.math.BigInteger.valueOf(2048)).mod(java.math.BigInteger.valueOf(16));
            set |= draw.intValue() < odds[t] ? 1 << t : 0;
        }
        return set;
    }

    int meter(int seeds, int many) {
        int count = 0;
        for (int k = 0; k < many; k++) {
            count += (backWalk(k % n, lot(k)) & seeds) != 0 ? 1 : 0;
        }
        return count;
    }
}
