import java.math.BigInteger;
import java.util.ArrayList;
import java.util.Arrays;
import java.util.HashMap;
import java.util.List;
import java.util.Map;

/**
 * The whole object as the document tells it, from its first line to its last, with nothing saved: every lot is gone
 * through, every hour is counted. A call is its name and its numbers (true is 1); the answer is a number too.
 */
final class Document {
    private static final int NONE = -1;

    private final long[][] trays = new long[4][];
    private final int[] sorts = new int[4];
    private final List<Byte> tape = new ArrayList<>();
    private final List<int[]> runs = new ArrayList<>();
    private final Map<Long, BigInteger> sums = new HashMap<>();
    private DocumentNet net = new DocumentNet();
    int status;
    BigInteger top = BigInteger.ZERO;
    BigInteger bottom = BigInteger.ONE;
    int faultKind = NONE;
    int faultPlace = NONE;

    /** A status other than 0: nothing but it changes. */
    private static final class Ends extends RuntimeException {
        private static final long serialVersionUID = 1;
        private final int why;

        Ends(int why) {
            super("status " + why);
            this.why = why;
        }
    }

    private static void unless(boolean holds, int why) {
        if (!holds) {
            throw new Ends(why);
        }
    }

    long call(String name, long... n) {
        if (name.equals("feed")) {
            return feed(n);
        }
        try {
            long answer = answer(name, n);
            status = 0;
            return answer;
        } catch (Ends ends) {
            status = ends.why;
            return isTrueOrFalse(name) ? 0 : NONE;
        }
    }

    static boolean isTrueOrFalse(String name) {
        return List.of("tray", "write", "pour", "refuse", "spread", "adds", "bound", "fight", "source").contains(name);
    }

    private long answer(String name, long[] n) {
        switch (name) {
            case "tray": return tray(n[0], n[1], n[2]);
            case "write": return write(n[0], n[1], n[2]);
            case "read": return read(n[0], n[1]);
            case "pour": return pour(n[0], n[1], n[2], n[3], n[4]);
            case "net": return net(n[0]);
            case "many": return many(n[0]);
            case "person": return person(n[0], n[1]);
            case "tie": return tie(n[0], n[1]);
            case "refuse": return refuse(n[0], n[1] != 0);
            case "weight": return weight(n[0]);
            case "reached": return reached(n[0], n[1]);
            case "backWalk": return backWalk(n[0], n[1]);
            case "spread": return spread(n[0], n[1]);
            case "adds": return adds(n[0], n[1]);
            case "greedy": return greedy(n[0], n[1]);
            case "best": return best(n[0], n[1]);
            case "bound": return bound(n[0], n[1]);
            case "rounds": return rounds(n[0]);
            case "fight": return fight(n[0], n[1], n[2], n[3]);
            case "answer": return answer(n[0], n[1]);
            case "latest": return latest(n[0], n[1]);
            case "stops": return stops(n[0], n[1]);
            case "source": return source(n[0], n[1], n[2]);
            case "run": return run(n[0]);
            case "likeliest": return likeliest(n[0]);
            case "neverTried": return neverTried();
            case "telling": return telling(n[0]);
            case "lead": return lead(n[0], n[1], n[2], n[3]);
            case "check": return check(n[0], n[1], n[2]);
            case "lot": return lot(n[0]);
            case "meter": return meter(n[0], n[1]);
            default: throw new IllegalStateException("no call " + name);
        }
    }

    // ---- what statuses ask

    private void isTray(long tray) {
        unless(tray >= 0 && tray <= 3, 1);
    }

    private void isPerson(long person) {
        unless(person >= 0 && person < people(), 2);
    }

    private void arePeople(long set) {
        unless(set >= 0 && set < 1L << people(), 2);
    }

    private void areTies(long set) {
        unless(set >= 0 && set < 1L << ties(), 2);
    }

    private void isThere(long tray) {
        unless(trays[(int) tray] != null, 3);
    }

    private void hasPlaces(long tray, long from, long many) {
        long length = trays[(int) tray].length;
        unless(from >= 0 && from <= length && from + many <= length, 4);
    }

    private static void canBe(long number, long low, long high) {
        unless(number >= low && number <= high, 5);
    }

    private void arePeopleAtAll() {
        unless(people() > 0, 8);
    }

    int people() {
        return net.people.size();
    }

    int ties() {
        return net.ties.size();
    }

    // ---- TRAYS

    private long tray(long tray, long sort, long many) {
        isTray(tray);
        unless(sort >= 0 && sort <= 3, 1);
        unless(many <= 40, 5);
        unless(many >= 0, 6);
        trays[(int) tray] = new long[(int) many];
        sorts[(int) tray] = (int) sort;
        return 1;
    }

    private long write(long tray, long place, long v) {
        isTray(tray);
        isThere(tray);
        hasPlaces(tray, place, 1);
        BigInteger range = BigInteger.ONE.shiftLeft(8 << sorts[(int) tray]);
        BigInteger cut = BigInteger.valueOf(v).mod(range);
        if (cut.shiftLeft(1).compareTo(range) >= 0) {
            cut = cut.subtract(range);
        }
        trays[(int) tray][(int) place] = cut.longValueExact();
        return 1;
    }

    private long read(long tray, long place) {
        isTray(tray);
        isThere(tray);
        hasPlaces(tray, place, 1);
        return trays[(int) tray][(int) place];
    }

    private long pour(long tray, long i, long to, long j, long many) {
        isTray(tray);
        isTray(to);
        isThere(tray);
        isThere(to);
        unless(sorts[(int) tray] == sorts[(int) to], 11);
        unless(many >= 0, 6);
        hasPlaces(tray, i, many);
        hasPlaces(to, j, many);
        long[] asTheyWere = trays[(int) tray].clone();
        for (int k = 0; k < many; k++) {
            trays[(int) to][(int) j + k] = asTheyWere[(int) i + k];
        }
        return 1;
    }

    // ---- the NET

    private long feed(long[] ints) {
        if (tape.size() + 20 > 600) {
            return NONE;
        }
        for (long four : ints) {
            for (int byteOfIt = 3; byteOfIt >= 0; byteOfIt--) {
                tape.add((byte) (four >> 8 * byteOfIt));
            }
        }
        return tape.size();
    }

    private long net(long n) {
        canBe(n, 0, tape.size());
        StringBuilder text = new StringBuilder();
        for (int i = 0; i < n; i++) {
            text.append((char) (tape.get(i) & 255));
        }
        tape.clear();
        DocumentNet read = new DocumentNet();
        read.read(text.toString());
        faultKind = read.faultKind;
        faultPlace = read.faultPlace;
        unless(faultKind == 0, 10);
        net = read;
        runs.clear();
        sums.clear();
        return people();
    }

    private long many(long what) {
        canBe(what, 0, 1);
        return what == 0 ? people() : ties();
    }

    private long person(long person, long what) {
        isPerson(person);
        canBe(what, 0, 4);
        DocumentNet.Person one = net.people.get((int) person);
        return new int[] {one.valley, one.needs, one.late, one.stubborn ? 1 : 0, one.costs}[(int) what];
    }

    private long tie(long tie, long what) {
        unless(tie >= 0 && tie < ties(), 2);
        canBe(what, 0, 3);
        DocumentNet.Tie one = net.ties.get((int) tie);
        return new int[] {one.from, one.to, one.odds, one.hours}[(int) what];
    }

    private long refuse(long person, boolean is) {
        isPerson(person);
        net.people.get((int) person).stubborn = is;
        sums.clear();
        return 1;
    }

    // ---- LOTS, SPREAD

    private static boolean in(long set, int one) {
        return (set / (1L << one)) % 2 == 1;
    }

    private long weightOf(long lot) {
        long weight = 1;
        for (int t = 0; t < ties(); t++) {
            int odds = net.ties.get(t).odds;
            weight *= in(lot, t) ? odds : 16 - odds;
        }
        return weight;
    }

    private long lots() {
        return 1L << ties();
    }

    private BigInteger allWeights() {
        return BigInteger.valueOf(16).pow(ties());
    }

    private void tell(BigInteger newTop, BigInteger newBottom) {
        BigInteger divisor = newTop.gcd(newBottom);
        top = newTop.divide(divisor);
        bottom = newBottom.divide(divisor);
    }

    private long weight(long lot) {
        areTies(lot);
        return weightOf(lot);
    }

    private long reachedBy(long seeds, long open) {
        long set = seeds;
        boolean grew = true;
        while (grew) {
            grew = false;
            for (int p = 0; p < people(); p++) {
                DocumentNet.Person one = net.people.get(p);
                if (in(set, p) || one.stubborn) {
                    continue;
                }
                int leading = 0;
                for (int t = 0; t < ties(); t++) {
                    DocumentNet.Tie tie = net.ties.get(t);
                    leading += in(open, t) && tie.to == p && in(set, tie.from) ? 1 : 0;
                }
                if (leading >= one.needs) {
                    set += 1L << p;
                    grew = true;
                }
            }
        }
        return set;
    }

    private long reached(long seeds, long lot) {
        arePeople(seeds);
        areTies(lot);
        return reachedBy(seeds, lot);
    }

    private boolean walksTo(int from, int to, long open, long walked) {
        if (from == to) {
            return true;
        }
        if (net.people.get(to).stubborn) {
            return false;
        }
        for (int t = 0; t < ties(); t++) {
            DocumentNet.Tie tie = net.ties.get(t);
            if (in(open, t) && tie.to == to && !in(walked, tie.from)
                    && walksTo(from, tie.from, open, walked + (1L << tie.from))) {
                return true;
            }
        }
        return false;
    }

    private boolean isInBackWalk(int one, int person, long open) {
        return walksTo(one, person, open, 1L << person);
    }

    private long backWalk(long person, long lot) {
        isPerson(person);
        areTies(lot);
        long set = 0;
        for (int p = 0; p < people(); p++) {
            set += isInBackWalk(p, (int) person, lot) ? 1L << p : 0;
        }
        return set;
    }

    /** The mean of how many are reached, times all weights. */
    private BigInteger sum(long seeds, long closed) {
        return sums.computeIfAbsent(seeds << 16 | closed, key -> {
            BigInteger sum = BigInteger.ZERO;
            for (long lot = 0; lot < lots(); lot++) {
                long weight = weightOf(lot);
                if (weight != 0) {
                    int many = Long.bitCount(reachedBy(seeds, lot & ~closed));
                    sum = sum.add(BigInteger.valueOf(weight * many));
                }
            }
            return sum;
        });
    }

    private long spread(long seeds, long closed) {
        arePeople(seeds);
        areTies(closed);
        tell(sum(seeds, closed), allWeights());
        return 1;
    }

    private long adds(long seeds, long person) {
        arePeople(seeds);
        isPerson(person);
        BigInteger without = sum(seeds, 0);
        BigInteger with = in(seeds, (int) person) ? without : sum(seeds + (1L << person), 0);
        tell(with.subtract(without), allWeights());
        return 1;
    }

    // ---- CHOSEN

    private boolean mayBeChosen(long set, long many, long purse) {
        int cost = 0;
        int[] there = new int[4];
        for (int p = 0; p < people(); p++) {
            if (in(set, p)) {
                cost += net.people.get(p).costs;
                there[net.people.get(p).valley]++;
            }
        }
        boolean valleysLet = true;
        for (int v = 0; v < 4; v++) {
            valleysLet &= there[v] <= net.most[v];
        }
        return valleysLet && cost <= purse && Long.bitCount(set) <= many;
    }

    private long greedySet(long many, long purse) {
        long set = 0;
        while (true) {
            long next = NONE;
            for (int p = 0; p < people(); p++) {
                if (!in(set, p) && mayBeChosen(set + (1L << p), many, purse)) {
                    boolean greater = next == NONE
                        || sum(set + (1L << p), 0).compareTo(sum(set + (1L << next), 0)) > 0;
                    next = greater ? p : next;
                }
            }
            if (next == NONE || sum(set + (1L << next), 0).compareTo(sum(set, 0)) <= 0) {
                return set;
            }
            set += 1L << next;
        }
    }

    private static void canBeChosen(long many, long purse) {
        canBe(many, 1, 4);
        canBe(purse, 0, 999);
    }

    private long greedy(long many, long purse) {
        canBeChosen(many, purse);
        long set = greedySet(many, purse);
        tell(sum(set, 0), allWeights());
        return set;
    }

    /** Whether a set comes ahead of another one with as much: fewer, then less. */
    private static boolean isAhead(long set, long other) {
        int fewer = Integer.compare(Long.bitCount(set), Long.bitCount(other));
        return fewer < 0 || fewer == 0 && set < other;
    }

    private long best(long many, long purse) {
        canBeChosen(many, purse);
        long best = NONE;
        for (long set = 0; set < 1L << people(); set++) {
            if (mayBeChosen(set, many, purse)) {
                int greater = best == NONE ? 1 : sum(set, 0).compareTo(sum(best, 0));
                best = greater > 0 || greater == 0 && isAhead(set, best) ? set : best;
            }
        }
        tell(sum(best, 0), allWeights());
        return best;
    }

    private long bound(long many, long purse) {
        canBeChosen(many, purse);
        long set = greedySet(many, purse);
        List<BigInteger> growths = new ArrayList<>();
        for (int p = 0; p < people(); p++) {
            if (!in(set, p)) {
                growths.add(sum(set + (1L << p), 0).subtract(sum(set, 0)));
            }
        }
        growths.sort((a, b) -> b.compareTo(a));
        BigInteger all = sum(set, 0);
        for (int i = 0; i < many && i < growths.size(); i++) {
            all = all.add(growths.get(i));
        }
        tell(all, allWeights());
        return 1;
    }

    private BigInteger seenOf(int a) {
        Map<Long, BigInteger[]> byView = new HashMap<>();
        for (long lot = 0; lot < lots(); lot++) {
            BigInteger[] of = byView.computeIfAbsent(reachedBy(1L << a, lot), view -> {
                BigInteger[] zeros = new BigInteger[people()];
                Arrays.fill(zeros, BigInteger.ZERO);
                return zeros;
            });
            for (int b = 0; b < people(); b++) {
                long many = Long.bitCount(reachedBy(1L << a | 1L << b, lot));
                of[b] = of[b].add(BigInteger.valueOf(weightOf(lot) * many));
            }
        }
        BigInteger all = BigInteger.ZERO;
        for (BigInteger[] of : byView.values()) {
            BigInteger most = BigInteger.ZERO;
            for (BigInteger one : of) {
                most = most.max(one);
            }
            all = all.add(most);
        }
        return all;
    }

    private long blindSet() {
        long best = NONE;
        for (long set = 1; set < 1L << people(); set++) {
            if (Long.bitCount(set) <= 2) {
                int greater = best == NONE ? 1 : sum(set, 0).compareTo(sum(best, 0));
                best = greater > 0 || greater == 0 && isAhead(set, best) ? set : best;
            }
        }
        return best;
    }

    private long rounds(long what) {
        canBe(what, 0, 2);
        arePeopleAtAll();
        int first = 0;
        BigInteger seen = BigInteger.ZERO;
        for (int a = 0; a < people() && what != 1; a++) {
            BigInteger of = seenOf(a);
            first = of.compareTo(seen) > 0 ? a : first;
            seen = seen.max(of);
        }
        if (what == 0) {
            tell(seen, allWeights());
            return first;
        }
        long blind = blindSet();
        tell(what == 1 ? sum(blind, 0) : seen.subtract(sum(blind, 0)), allWeights());
        return blind;
    }

    // ---- TWO THINGS, STOPS

    private DocumentStory story(long red, long blue, long hour, long lot) {
        return new DocumentStory(net, red, blue, (int) hour, lot);
    }

    private BigInteger fought(long red, long blue, long hour, boolean ofRed) {
        BigInteger sum = BigInteger.ZERO;
        for (long lot = 0; lot < lots(); lot++) {
            long weight = weightOf(lot);
            if (weight != 0) {
                sum = sum.add(BigInteger.valueOf(weight * story(red, blue, hour, lot).howManyTook(ofRed)));
            }
        }
        return sum;
    }

    private long fight(long red, long blue, long hour, long what) {
        arePeople(red);
        arePeople(blue);
        canBe(hour, 0, 20);
        canBe(what, 0, 1);
        tell(fought(red, blue, hour, what == 0), allWeights());
        return 1;
    }

    private long answer(long red, long hour) {
        arePeople(red);
        canBe(hour, 0, 20);
        arePeopleAtAll();
        int best = 0;
        BigInteger most = BigInteger.valueOf(NONE);
        for (int p = 0; p < people(); p++) {
            BigInteger of = fought(red, 1L << p, hour, false);
            best = of.compareTo(most) > 0 ? p : best;
            most = most.max(of);
        }
        tell(most, allWeights());
        return best;
    }

    private long latest(long red, long person) {
        arePeople(red);
        isPerson(person);
        BigInteger without = fought(red, 0, 0, true);
        int latest = NONE;
        for (int hour = 0; hour <= 20; hour++) {
            BigInteger with = fought(red, 1L << person, hour, true);
            latest = with.add(with).compareTo(without) <= 0 ? hour : latest;
        }
        unless(latest != NONE, 9);
        return latest;
    }

    private long stops(long seeds, long many) {
        arePeople(seeds);
        canBe(many, 0, 3);
        long best = 0;
        for (long set = 0; set < lots(); set++) {
            if (Long.bitCount(set) <= many) {
                int less = sum(seeds, set).compareTo(sum(seeds, best));
                best = less < 0 || less == 0 && isAhead(set, best) ? set : best;
            }
        }
        tell(sum(seeds, best), allWeights());
        return best;
    }

    // ---- SOURCE, RUNS

    private boolean comesOut(DocumentStory story, long hour, long[] seen) {
        for (int p = 0; p < people(); p++) {
            boolean had = story.took[p] != NONE && story.took[p] <= hour;
            if (seen[p] == 1 && !had || seen[p] == 0 && had) {
                return false;
            }
        }
        return true;
    }

    private long source(long tray, long hour, long person) {
        isTray(tray);
        isPerson(person);
        isThere(tray);
        canBe(hour, 0, 149);
        hasPlaces(tray, 0, people());
        long[] seen = trays[(int) tray];
        for (int p = 0; p < people(); p++) {
            canBe(seen[p], -1, 1);
        }
        BigInteger all = BigInteger.ZERO;
        BigInteger byIt = BigInteger.ZERO;
        for (int p = 0; p < people(); p++) {
            for (long lot = 0; lot < lots(); lot++) {
                if (comesOut(story(1L << p, 0, 0, lot), hour, seen)) {
                    BigInteger weight = BigInteger.valueOf(weightOf(lot));
                    all = all.add(weight);
                    byIt = p == person ? byIt.add(weight) : byIt;
                }
            }
        }
        unless(all.signum() > 0, 9);
        tell(byIt, all);
        return 1;
    }

    private long run(long tray) {
        isTray(tray);
        isThere(tray);
        hasPlaces(tray, 0, people());
        int[] hours = new int[people()];
        for (int p = 0; p < people(); p++) {
            canBe(trays[(int) tray][p], NONE, 149);
            hours[p] = (int) trays[(int) tray][p];
        }
        unless(runs.size() < 15, 7);
        runs.add(hours);
        return runs.size() - 1;
    }

    private boolean tried(DocumentNet.Tie tie, int[] run) {
        if (run[tie.from] == NONE) {
            return false;
        }
        boolean tookAhead = run[tie.to] != NONE && run[tie.to] < run[tie.from] + tie.hours;
        return !tookAhead;
    }

    private boolean told(DocumentNet.Tie tie, int[] run) {
        return run[tie.from] != NONE && run[tie.to] != NONE
            && run[tie.to] - run[tie.from] == tie.hours + net.people.get(tie.to).late;
    }

    private long likeliest(long tie) {
        unless(tie >= 0 && tie < ties(), 2);
        int told = 0;
        int untold = 0;
        for (int[] run : runs) {
            if (tried(net.ties.get((int) tie), run)) {
                told += told(net.ties.get((int) tie), run) ? 1 : 0;
                untold += told(net.ties.get((int) tie), run) ? 0 : 1;
            }
        }
        unless(told + untold > 0, 8);
        int best = 0;
        BigInteger most = BigInteger.valueOf(NONE);
        for (int odds = 0; odds <= 16; odds++) {
            BigInteger likely = BigInteger.valueOf(odds).pow(told).multiply(BigInteger.valueOf(16 - odds).pow(untold));
            best = likely.compareTo(most) > 0 ? odds : best;
            most = most.max(likely);
        }
        return best;
    }

    private long neverTried() {
        long set = 0;
        for (int t = 0; t < ties(); t++) {
            boolean once = false;
            for (int[] run : runs) {
                once |= tried(net.ties.get(t), run);
            }
            set += once ? 0 : 1L << t;
        }
        return set;
    }

    private int howManyTold(int[] run) {
        int many = 0;
        for (DocumentNet.Tie tie : net.ties) {
            many += told(tie, run) ? 1 : 0;
        }
        return many;
    }

    private long telling(long run) {
        unless(run >= 0 && run < runs.size(), 2);
        long ways = 1;
        int[] there = new int[4];
        for (DocumentNet.Person one : net.people) {
            there[one.valley]++;
            ways *= there[one.valley];
        }
        unless(ways <= 5040, 9);
        int[] hours = runs.get((int) run);
        int many = howManyTold(hours);
        long[] counted = new long[2];
        deal(hours, new int[people()], 0, 0, many, counted);
        if (counted[1] != ways) {
            throw new IllegalStateException("dealt in " + counted[1] + " ways of " + ways);
        }
        tell(BigInteger.valueOf(counted[0]), BigInteger.valueOf(ways));
        return many;
    }

    /** Deals the hour of a person to each of its valley in turn. */
    private void deal(int[] hours, int[] dealt, int person, long had, int many, long[] counted) {
        if (person == people()) {
            counted[0] += howManyTold(dealt) >= many ? 1 : 0;
            counted[1]++;
            return;
        }
        for (int to = 0; to < people(); to++) {
            if (!in(had, to) && net.people.get(to).valley == net.people.get(person).valley) {
                dealt[to] = hours[person];
                deal(hours, dealt, person + 1, had + (1L << to), many, counted);
            }
        }
    }

    // ---- LEAD, CHECK, METER

    private long lead(long seeds, long lot, long person, long what) {
        arePeople(seeds);
        areTies(lot);
        isPerson(person);
        canBe(what, 0, 1);
        DocumentStory story = story(seeds, 0, 0, lot);
        unless(story.took[(int) person] != NONE, 8);
        unless(what == 1 || !in(seeds, (int) person), 8);
        return what == 1 ? story.took[(int) person] : story.movedBy((int) person);
    }

    private long check(long seeds, long lot, long tray) {
        isTray(tray);
        arePeople(seeds);
        areTies(lot);
        isThere(tray);
        hasPlaces(tray, 0, people());
        DocumentStory story = story(seeds, 0, 0, lot);
        for (int p = 0; p < people(); p++) {
            if (trays[(int) tray][p] != story.took[p]) {
                return p;
            }
        }
        return NONE;
    }

    private long lotOf(long k) {
        long set = 0;
        for (int t = 0; t < ties(); t++) {
            BigInteger draw = BigInteger.valueOf(k).multiply(BigInteger.valueOf(40503))
                .add(BigInteger.valueOf(t).multiply(BigInteger.valueOf(9973))).add(BigInteger.valueOf(1299709))
                .multiply(BigInteger.valueOf(69069)).divide(BigInteger.valueOf(2048));
            set += draw.mod(BigInteger.valueOf(16)).intValue() < net.ties.get(t).odds ? 1L << t : 0;
        }
        return set;
    }

    private long lot(long k) {
        canBe(k, 0, 9999);
        return lotOf(k);
    }

    private long meter(long seeds, long n) {
        arePeople(seeds);
        canBe(n, 1, 500);
        arePeopleAtAll();
        int many = 0;
        for (int k = 0; k < n; k++) {
            long open = lotOf(k);
            boolean hit = false;
            for (int p = 0; p < people(); p++) {
                hit |= in(seeds, p) && isInBackWalk(p, k % people(), open);
            }
            many += hit ? 1 : 0;
        }
        return many;
    }
}
