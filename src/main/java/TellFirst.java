import java.util.Arrays;

/** A net of people who tell one another: how far a thing goes, whom to tell first, who began it. */
public final class TellFirst {
    public static final int NONE = -1;

    private static final int MOST_PEOPLE = 12;
    private static final int MOST_TIES = 10;
    private static final int MOST_LOTS = 1 << MOST_TIES;
    private static final int VALLEYS = 4;
    private static final int SIXTEENTHS = 16;
    private static final int TRAYS = 4;
    private static final int MOST_BYTES = 600;
    private static final int LAST_HOUR = 149;
    private static final int LAST_BLUE_HOUR = 20;
    private static final int MOST_SEEDS = 4;
    private static final int MOST_PURSE = 999;
    private static final int MOST_STOPS = 3;
    private static final int MOST_DRAWS = 10000;
    private static final int MOST_METERED = 500;

    private static final int FINE = 0;
    private static final int NO_TRAY = 1;
    private static final int NO_SUCH = 2;
    private static final int MISSING = 3;
    private static final int NO_PLACE = 4;
    private static final int BAD_NUMBER = 5;
    private static final int BELOW_NOTHING = 6;
    private static final int TOO_MANY = 7;
    private static final int THERE_IS_NONE = 8;
    private static final int CANNOT_BE = 9;
    private static final int FAULTY = 10;
    private static final int UNLIKE_SORTS = 11;

    private final Tray[] trays = new Tray[TRAYS];
    private final byte[] tape = new byte[MOST_BYTES];
    private final Fraction fraction = new Fraction();
    private final Net net = new Net();
    private final Net draft = new Net();
    private final NetReader reader = new NetReader(tape, draft);
    private final Lots lots = new Lots(net);
    private final Chooser chooser = new Chooser(net, lots);
    private final TwoRounds twoRounds = new TwoRounds(net, lots);
    private final Story story = new Story(net);
    private final Means means = new Means(net, lots, story);
    private final RunBook book = new RunBook(net);
    private int state;
    private int taped;
    private int faultKind = NONE;
    private int faultPlace = NONE;

    public TellFirst() {
        for (int i = 0; i < TRAYS; i++) {
            trays[i] = new Tray();
        }
    }

    public int status() {
        return state;
    }

    public long top() {
        return fraction.above;
    }

    public long bottom() {
        return fraction.below;
    }

    // ---- TRAYS

    public boolean tray(int tray, int sort, int many) {
        int why = FINE;
        if (!isTray(tray) || sort < 0 || sort >= Tray.SORTS) {
            why = NO_TRAY;
        } else if (many > Tray.MOST) {
            why = BAD_NUMBER;
        } else if (many < 0) {
            why = BELOW_NOTHING;
        }
        if (fails(why)) {
            return false;
        }
        trays[tray].makeNew(sort, many);
        return true;
    }

    public boolean write(int tray, int place, long v) {
        if (fails(placeStatus(tray, place))) {
            return false;
        }
        trays[tray].put(place, v);
        return true;
    }

    public long read(int tray, int place) {
        if (fails(placeStatus(tray, place))) {
            return NONE;
        }
        return trays[tray].row[place];
    }

    public boolean pour(int tray, int i, int to, int j, int many) {
        if (fails(pourStatus(tray, i, to, j, many))) {
            return false;
        }
        System.arraycopy(trays[tray].row, i, trays[to].row, j, many);
        return true;
    }

    private int pourStatus(int tray, int i, int to, int j, int many) {
        if (!isTray(tray) || !isTray(to)) {
            return NO_TRAY;
        }
        if (trays[tray].isMissing() || trays[to].isMissing()) {
            return MISSING;
        }
        if (trays[tray].sort != trays[to].sort) {
            return UNLIKE_SORTS;
        }
        if (many < 0) {
            return BELOW_NOTHING;
        }
        return trays[tray].hasStretch(i, many) && trays[to].hasStretch(j, many) ? FINE : NO_PLACE;
    }

    private int placeStatus(int tray, int place) {
        int why = trayStatus(tray);
        if (why != FINE) {
            return why;
        }
        return place >= 0 && place < trays[tray].length ? FINE : NO_PLACE;
    }

    private int trayStatus(int tray) {
        if (!isTray(tray)) {
            return NO_TRAY;
        }
        return trays[tray].isMissing() ? MISSING : FINE;
    }

    private static boolean isTray(int tray) {
        return tray >= 0 && tray < TRAYS;
    }

    private boolean fails(int why) {
        state = why;
        return why != FINE;
    }

    // ---- the NET

    public int feed(int a, int b, int c, int d, int e) {
        if (taped + 20 > MOST_BYTES) {
            return NONE;
        }
        layOnTape(a);
        layOnTape(b);
        layOnTape(c);
        layOnTape(d);
        layOnTape(e);
        return taped;
    }

    private void layOnTape(int four) {
        for (int shift = 24; shift >= 0 && taped < MOST_BYTES; shift -= 8) {
            tape[taped] = (byte) (four >> shift);
            taped++;
        }
    }

    public int net(int n) {
        if (fails(n < 0 || n > taped ? BAD_NUMBER : FINE)) {
            return NONE;
        }
        taped = 0;
        reader.readAll(n);
        faultKind = reader.faultKind;
        faultPlace = reader.faultPlace;
        if (fails(faultKind != 0 ? FAULTY : FINE)) {
            return NONE;
        }
        net.copyFrom(draft);
        lots.weighAll();
        book.forgetAll();
        return net.people;
    }

    public int fault(int what) {
        if (what == 0) {
            return faultKind;
        }
        return what == 1 ? faultPlace : NONE;
    }

    public int many(int what) {
        if (fails(isBetween(what, 0, 1) ? FINE : BAD_NUMBER)) {
            return NONE;
        }
        return what == 0 ? net.people : net.ties;
    }

    public int person(int person, int what) {
        if (fails(oneOf(net.isPerson(person), isBetween(what, 0, 4)))) {
            return NONE;
        }
        switch (what) {
            case 0:
                return net.valley[person];
            case 1:
                return net.needs[person];
            case 2:
                return net.late[person];
            case 3:
                return has(net.stubborn, person) ? 1 : 0;
            default:
                return net.costs[person];
        }
    }

    public int tie(int tie, int what) {
        if (fails(oneOf(net.isTie(tie), isBetween(what, 0, 3)))) {
            return NONE;
        }
        switch (what) {
            case 0:
                return net.from[tie];
            case 1:
                return net.to[tie];
            case 2:
                return net.odds[tie];
            default:
                return net.hours[tie];
        }
    }

    public boolean refuse(int person, boolean is) {
        if (fails(oneOf(net.isPerson(person), true))) {
            return false;
        }
        net.stubborn = is ? net.stubborn | 1 << person : net.stubborn & ~(1 << person);
        return true;
    }

    private static boolean has(int set, int one) {
        return (set >> one & 1) != 0;
    }

    private static boolean isBetween(int value, int low, int high) {
        return value >= low && value <= high;
    }

    /** The status of a call that asks first for what there is, then for numbers that can be. */
    private static int oneOf(boolean thereIs, boolean canBe) {
        if (!thereIs) {
            return NO_SUCH;
        }
        return canBe ? FINE : BAD_NUMBER;
    }

    // ---- LOTS, SPREAD

    public long weight(int lot) {
        if (fails(oneOf(net.areTies(lot), true))) {
            return NONE;
        }
        return lots.weights[lot];
    }

    public int reached(int seeds, int lot) {
        if (fails(oneOf(net.arePeople(seeds) && net.areTies(lot), true))) {
            return NONE;
        }
        return lots.takers(seeds, lot);
    }

    public int backWalk(int person, int lot) {
        if (fails(oneOf(net.isPerson(person) && net.areTies(lot), true))) {
            return NONE;
        }
        return lots.walkedBack(person, lot);
    }

    public boolean spread(int seeds, int closed) {
        if (fails(oneOf(net.arePeople(seeds) && net.areTies(closed), true))) {
            return false;
        }
        fraction.become(lots.total(seeds, closed), lots.whole());
        return true;
    }

    public boolean adds(int seeds, int person) {
        if (fails(oneOf(net.arePeople(seeds) && net.isPerson(person), true))) {
            return false;
        }
        long more = lots.total(seeds | 1 << person, 0) - lots.total(seeds, 0);
        fraction.become(more, lots.whole());
        return true;
    }

    // ---- CHOSEN

    public int greedy(int many, int purse) {
        if (fails(choiceStatus(many, purse))) {
            return NONE;
        }
        int set = chooser.oneByOne(many, purse);
        fraction.become(chooser.total, lots.whole());
        return set;
    }

    public int best(int many, int purse) {
        if (fails(choiceStatus(many, purse))) {
            return NONE;
        }
        int set = chooser.throughAll(many, purse);
        fraction.become(chooser.total, lots.whole());
        return set;
    }

    public boolean bound(int many, int purse) {
        if (fails(choiceStatus(many, purse))) {
            return false;
        }
        int set = chooser.oneByOne(many, purse);
        fraction.become(chooser.withGrowths(set, many), lots.whole());
        return true;
    }

    public int rounds(int what) {
        if (fails(askedOfSome(isBetween(what, 0, 2)))) {
            return NONE;
        }
        if (what == 0) {
            int first = twoRounds.seeing();
            fraction.become(twoRounds.seenTotal, lots.whole());
            return first;
        }
        int set = twoRounds.blindly();
        long total = twoRounds.blindTotal;
        if (what == 2) {
            twoRounds.seeing();
            total = twoRounds.seenTotal - total;
        }
        fraction.become(total, lots.whole());
        return set;
    }

    private static int choiceStatus(int many, int purse) {
        return isBetween(many, 1, MOST_SEEDS) && isBetween(purse, 0, MOST_PURSE) ? FINE : BAD_NUMBER;
    }

    /** The status of a call that asks for numbers that can be, then for people. */
    private int askedOfSome(boolean canBe) {
        if (!canBe) {
            return BAD_NUMBER;
        }
        return net.people == 0 ? THERE_IS_NONE : FINE;
    }

    // ---- TWO THINGS, STOPS

    public boolean fight(int red, int blue, int hour, int what) {
        boolean canBe = isBetween(hour, 0, LAST_BLUE_HOUR) && isBetween(what, 0, 1);
        if (fails(oneOf(net.arePeople(red) && net.arePeople(blue), canBe))) {
            return false;
        }
        fraction.become(means.fought(red, blue, hour, what == 0), lots.whole());
        return true;
    }

    public int answer(int red, int hour) {
        int why = NO_SUCH;
        if (net.arePeople(red)) {
            why = askedOfSome(isBetween(hour, 0, LAST_BLUE_HOUR));
        }
        if (fails(why)) {
            return NONE;
        }
        int who = means.bestAnswer(red, hour);
        fraction.become(means.answered, lots.whole());
        return who;
    }

    public int latest(int red, int person) {
        if (fails(oneOf(net.arePeople(red) && net.isPerson(person), true))) {
            return NONE;
        }
        int hour = means.lastHour(red, person);
        return fails(hour == NONE ? CANNOT_BE : FINE) ? NONE : hour;
    }

    public int stops(int seeds, int many) {
        if (fails(oneOf(net.arePeople(seeds), isBetween(many, 0, MOST_STOPS)))) {
            return NONE;
        }
        int set = chooser.tiesToClose(seeds, many);
        fraction.become(chooser.total, lots.whole());
        return set;
    }

    // ---- SOURCE, RUNS

    public boolean source(int tray, int hour, int person) {
        int why = sourceStatus(tray, hour, person);
        long all = 0;
        if (why == FINE) {
            all = means.weighSources(trays[tray].row, hour);
            why = all == 0 ? CANNOT_BE : FINE;
        }
        if (fails(why)) {
            return false;
        }
        fraction.become(means.sources[person], all);
        return true;
    }

    private int sourceStatus(int tray, int hour, int person) {
        if (!isTray(tray)) {
            return NO_TRAY;
        }
        if (!net.isPerson(person)) {
            return NO_SUCH;
        }
        if (trays[tray].isMissing()) {
            return MISSING;
        }
        if (!isBetween(hour, 0, LAST_HOUR)) {
            return BAD_NUMBER;
        }
        if (trays[tray].length < net.people) {
            return NO_PLACE;
        }
        return trays[tray].allBetween(net.people, NONE, 1) ? FINE : BAD_NUMBER;
    }

    public int run(int tray) {
        if (fails(runStatus(tray))) {
            return NONE;
        }
        return book.keep(trays[tray].row);
    }

    private int runStatus(int tray) {
        int why = trayStatus(tray);
        if (why != FINE) {
            return why;
        }
        if (trays[tray].length < net.people) {
            return NO_PLACE;
        }
        if (!trays[tray].allBetween(net.people, NONE, LAST_HOUR)) {
            return BAD_NUMBER;
        }
        return book.count < RunBook.MOST ? FINE : TOO_MANY;
    }

    public int likeliest(int tie) {
        int why = NO_SUCH;
        if (net.isTie(tie)) {
            why = book.timesTried(tie) == 0 ? THERE_IS_NONE : FINE;
        }
        return fails(why) ? NONE : book.likeliestOdds(tie);
    }

    public int neverTried() {
        state = FINE;
        return book.untriedTies();
    }

    public int telling(int run) {
        int why = NO_SUCH;
        if (run >= 0 && run < book.count) {
            why = book.waysToDeal() == NONE ? CANNOT_BE : FINE;
        }
        if (fails(why)) {
            return NONE;
        }
        int told = book.toldIn(run);
        fraction.become(book.waysAsGood(run), book.waysToDeal());
        return told;
    }

    // ---- LEAD, CHECK, METER

    public int lead(int seeds, int lot, int person, int what) {
        boolean thereIs = net.arePeople(seeds) && net.areTies(lot) && net.isPerson(person);
        int why = oneOf(thereIs, isBetween(what, 0, 1));
        if (why == FINE) {
            story.play(seeds, 0, 0, lot);
            boolean moved = has(story.took, person) && (what == 1 || !has(seeds, person));
            why = moved ? FINE : THERE_IS_NONE;
        }
        if (fails(why)) {
            return NONE;
        }
        return what == 1 ? story.tookIn[person] : story.moverOf(person, lot);
    }

    public int check(int seeds, int lot, int tray) {
        if (fails(checkStatus(seeds, lot, tray))) {
            return NONE;
        }
        story.play(seeds, 0, 0, lot);
        for (int p = 0; p < net.people; p++) {
            if (trays[tray].row[p] != story.hourOf(p)) {
                return p;
            }
        }
        return NONE;
    }

    private int checkStatus(int seeds, int lot, int tray) {
        if (!isTray(tray)) {
            return NO_TRAY;
        }
        if (!net.arePeople(seeds) || !net.areTies(lot)) {
            return NO_SUCH;
        }
        if (trays[tray].isMissing()) {
            return MISSING;
        }
        return trays[tray].length < net.people ? NO_PLACE : FINE;
    }

    public int lot(int k) {
        if (fails(isBetween(k, 0, MOST_DRAWS - 1) ? FINE : BAD_NUMBER)) {
            return NONE;
        }
        return lots.drawn(k);
    }

    public int meter(int seeds, int n) {
        int why = NO_SUCH;
        if (net.arePeople(seeds)) {
            why = askedOfSome(isBetween(n, 1, MOST_METERED));
        }
        return fails(why) ? NONE : lots.metered(seeds, n);
    }

    /** A row of numbers that are cut to its sort as they are written. */
    private static final class Tray {
        private static final int SORTS = 4;
        private static final int MOST = 40;

        private final long[] row = new long[MOST];
        private int sort;
        private int length = NONE;

        boolean isMissing() {
            return length == NONE;
        }

        void makeNew(int newSort, int newLength) {
            sort = newSort;
            length = newLength;
            Arrays.fill(row, 0L);
        }

        void put(int place, long v) {
            switch (sort) {
                case 0:
                    row[place] = (byte) v;
                    break;
                case 1:
                    row[place] = (short) v;
                    break;
                case 2:
                    row[place] = (int) v;
                    break;
                default:
                    row[place] = v;
                    break;
            }
        }

        boolean hasStretch(int start, int many) {
            return start >= 0 && many <= length && start <= length - many;
        }

        boolean allBetween(int many, long low, long high) {
            for (int i = 0; i < many && i < length; i++) {
                if (row[i] < low || row[i] > high) {
                    return false;
                }
            }
            return true;
        }
    }

    /** A fraction without a common divisor. */
    private static final class Fraction {
        // Euclid's steps for two longs are fewer than this.
        private static final int MOST_STEPS = 100;

        private long above;
        private long below = 1;

        void become(long newAbove, long newBelow) {
            long divisor = commonDivisor(newAbove, newBelow);
            if (newBelow > 0 && divisor > 0) {
                above = newAbove / divisor;
                below = newBelow / divisor;
            }
        }

        private static long commonDivisor(long a, long b) {
            long x = a;
            long y = b;
            for (int step = 0; step < MOST_STEPS && y != 0; step++) {
                long rest = x % y;
                x = y;
                y = rest;
            }
            return x;
        }
    }

    /** People and ties, and of each person the ties that lead to it and from it. */
    private static final class Net {
        private final int[] valley = new int[MOST_PEOPLE];
        private final int[] needs = new int[MOST_PEOPLE];
        private final int[] late = new int[MOST_PEOPLE];
        private final int[] costs = new int[MOST_PEOPLE];
        private final int[] into = new int[MOST_PEOPLE];
        private final int[] outOf = new int[MOST_PEOPLE];
        private final int[] from = new int[MOST_TIES];
        private final int[] to = new int[MOST_TIES];
        private final int[] odds = new int[MOST_TIES];
        private final int[] hours = new int[MOST_TIES];
        private final int[] most = new int[VALLEYS];
        private int people;
        private int ties;
        private int stubborn;

        void empty() {
            people = 0;
            ties = 0;
            stubborn = 0;
            Arrays.fill(most, MOST_PEOPLE);
        }

        boolean isPerson(int person) {
            return person >= 0 && person < people;
        }

        boolean isTie(int tie) {
            return tie >= 0 && tie < ties;
        }

        boolean arePeople(int set) {
            return set >>> people == 0;
        }

        boolean areTies(int set) {
            return set >>> ties == 0;
        }

        boolean isFullOfPeople() {
            return people >= MOST_PEOPLE;
        }

        boolean hasRoomForTies(int many) {
            return ties + many <= MOST_TIES;
        }

        int addPerson() {
            if (isFullOfPeople()) {
                return NONE;
            }
            int person = people;
            people++;
            valley[person] = 0;
            needs[person] = 1;
            late[person] = 0;
            costs[person] = 1;
            into[person] = 0;
            outOf[person] = 0;
            return person;
        }

        void addTie(int teller, int told, int newOdds, int newHours) {
            if (!isPerson(teller) || !isPerson(told) || !hasRoomForTies(1)) {
                return;
            }
            from[ties] = teller;
            to[ties] = told;
            odds[ties] = newOdds;
            hours[ties] = newHours;
            outOf[teller] |= 1 << ties;
            into[told] |= 1 << ties;
            ties++;
        }

        boolean hasTie(int teller, int told) {
            return isPerson(teller) && isPerson(told) && (outOf[teller] & into[told]) != 0;
        }

        int tiesFrom(int set) {
            int found = 0;
            for (int p = 0; p < people; p++) {
                if (has(set, p)) {
                    found |= outOf[p];
                }
            }
            return found;
        }

        boolean isTold(int person, int told) {
            return Integer.bitCount(into[person] & told) >= needs[person];
        }

        void copyFrom(Net other) {
            people = other.people;
            ties = other.ties;
            stubborn = other.stubborn;
            System.arraycopy(other.valley, 0, valley, 0, MOST_PEOPLE);
            System.arraycopy(other.needs, 0, needs, 0, MOST_PEOPLE);
            System.arraycopy(other.late, 0, late, 0, MOST_PEOPLE);
            System.arraycopy(other.costs, 0, costs, 0, MOST_PEOPLE);
            System.arraycopy(other.into, 0, into, 0, MOST_PEOPLE);
            System.arraycopy(other.outOf, 0, outOf, 0, MOST_PEOPLE);
            System.arraycopy(other.from, 0, from, 0, MOST_TIES);
            System.arraycopy(other.to, 0, to, 0, MOST_TIES);
            System.arraycopy(other.odds, 0, odds, 0, MOST_TIES);
            System.arraycopy(other.hours, 0, hours, 0, MOST_TIES);
            System.arraycopy(other.most, 0, most, 0, VALLEYS);
        }
    }

    /** Reads the text of a net, token by token, up to its first fault. */
    private static final class NetReader {
        private static final int END = 0;
        private static final int BAD = 1;
        private static final int NUMBER = 2;
        private static final int SIGN = 3;
        private static final int LONG_WORD = 4;
        private static final int NAME = 5;
        private static final int PERSON = 6;
        private static final int TIE = 7;
        private static final int TO = 8;
        private static final int ODDS = 9;
        private static final int VALLEY = 10;
        private static final int MOST = 11;
        private static final int IN = 12;
        private static final int NEEDS = 13;
        private static final int LATE = 14;
        private static final int STUBBORN = 15;
        private static final int COSTS = 16;
        private static final int HOURS = 17;
        private static final int BACK = 18;

        private static final int NO_TOKEN = 1;
        private static final int MISPLACED = 2;
        private static final int WRONG_NAME = 3;
        private static final int WRONG_NUMBER = 4;
        private static final int TOLD_TWICE = 5;
        private static final int ONE_TOO_MANY = 6;

        // The words that are no names, each with a blank behind it, as their kinds are numbered.
        private static final String WORDS =
            "person tie to odds valley most in needs late stubborn costs hours back ";
        private static final int MANY_WORDS = 13;

        // A word is known by one number, so many bits a letter: that of a longest name fits in a long.
        private static final int LETTER_BITS = 5;
        private static final int LONGEST_NAME = 8;
        private static final int LONGEST_NUMBER = 3;

        private final long[] words = new long[MANY_WORDS];
        private final long[] names = new long[MOST_PEOPLE];
        private final byte[] text;
        private final Net made;
        private int length;
        private int start;
        private int end;
        private int kind;
        private int number;
        private long name;
        private int valleysTold;
        private int faultKind;
        private int faultPlace;

        NetReader(byte[] ofText, Net toMake) {
            text = ofText;
            made = toMake;
            int word = 0;
            for (int i = 0; i < WORDS.length() && word < MANY_WORDS; i++) {
                if (WORDS.charAt(i) == ' ') {
                    word++;
                } else {
                    words[word] = words[word] << LETTER_BITS | WORDS.charAt(i) - 'a' + 1;
                }
            }
        }

        /** Reads the first bytes of the text, so many. */
        void readAll(int many) {
            length = Math.min(many, text.length);
            end = 0;
            made.empty();
            valleysTold = 0;
            faultKind = 0;
            faultPlace = NONE;
            advance();
            for (int part = 0; part < MOST_BYTES && goesOn() && kind != END; part++) {
                switch (kind) {
                    case PERSON:
                        readPerson();
                        break;
                    case TIE:
                        readTie();
                        break;
                    case VALLEY:
                        readValley();
                        break;
                    default:
                        fail(MISPLACED);
                        break;
                }
                pass(SIGN);
            }
        }

        private boolean goesOn() {
            return faultKind == 0;
        }

        private void fail(int what) {
            if (faultKind == 0) {
                faultKind = what;
                faultPlace = start;
            }
        }

        private void readPerson() {
            advance();
            if (kind != NAME) {
                fail(MISPLACED);
            } else if (personNamed() != NONE) {
                fail(WRONG_NAME);
            } else if (made.isFullOfPeople()) {
                fail(ONE_TOO_MANY);
            }
            int person = goesOn() ? made.addPerson() : NONE;
            if (person == NONE) {
                return;
            }
            names[person] = name;
            advance();
            int had = 0;
            for (int i = 0; i < MOST_BYTES && goesOn() && isBetween(kind, IN, COSTS); i++) {
                had = passOnce(had);
                readTrait(person, kind);
            }
        }

        private void readTrait(int person, int trait) {
            if (!goesOn()) {
                return;
            }
            advance();
            switch (trait) {
                case IN:
                    made.valley[person] = passNumber(0, VALLEYS - 1);
                    break;
                case NEEDS:
                    made.needs[person] = passNumber(1, 3);
                    break;
                case LATE:
                    made.late[person] = passNumber(0, 5);
                    break;
                case STUBBORN:
                    made.stubborn |= 1 << person;
                    break;
                default:
                    made.costs[person] = passNumber(0, 99);
                    break;
            }
        }

        private void readTie() {
            if (!made.hasRoomForTies(1)) {
                fail(ONE_TOO_MANY);
            }
            pass(TIE);
            int teller = knownPerson();
            advance();
            pass(TO);
            int told = knownPerson();
            if (goesOn() && told == teller) {
                fail(TOLD_TWICE);
            } else if (made.hasTie(teller, told)) {
                fail(ONE_TOO_MANY);
            }
            advance();
            pass(ODDS);
            int odds = passNumber(0, SIXTEENTHS);
            readSpeeds(teller, told, odds);
        }

        private void readSpeeds(int teller, int told, int odds) {
            int hours = 1;
            boolean back = false;
            int had = 0;
            for (int i = 0; i < MOST_BYTES && goesOn() && isBetween(kind, HOURS, BACK); i++) {
                had = passOnce(had);
                if (kind == HOURS) {
                    advance();
                    hours = passNumber(1, 5);
                } else {
                    back = true;
                    if (!made.hasRoomForTies(2) || made.hasTie(told, teller)) {
                        fail(ONE_TOO_MANY);
                    }
                    advance();
                }
            }
            if (goesOn()) {
                made.addTie(teller, told, odds, hours);
            }
            if (goesOn() && back) {
                made.addTie(told, teller, odds, hours);
            }
        }

        private void readValley() {
            advance();
            int valley = soundNumber(0, VALLEYS - 1);
            if (goesOn() && has(valleysTold, valley)) {
                fail(TOLD_TWICE);
            }
            advance();
            pass(MOST);
            int most = passNumber(0, MOST_PEOPLE);
            if (goesOn()) {
                valleysTold |= 1 << valley;
                made.most[valley] = most;
            }
        }

        /** Marks the token's kind as had; it stays the token. */
        private int passOnce(int had) {
            if (has(had, kind)) {
                fail(TOLD_TWICE);
            }
            return had | 1 << kind;
        }

        private void pass(int wanted) {
            if (kind != wanted) {
                fail(MISPLACED);
            }
            advance();
        }

        private int passNumber(int low, int high) {
            int value = soundNumber(low, high);
            advance();
            return value;
        }

        private int soundNumber(int low, int high) {
            if (kind != NUMBER) {
                fail(MISPLACED);
            } else if (!isBetween(number, low, high)) {
                fail(WRONG_NUMBER);
            }
            return goesOn() ? number : low;
        }

        private int knownPerson() {
            int person = NONE;
            if (kind != NAME) {
                fail(MISPLACED);
            } else {
                person = personNamed();
            }
            if (person == NONE) {
                fail(WRONG_NAME);
            }
            return person;
        }

        private int personNamed() {
            for (int p = 0; p < made.people; p++) {
                if (names[p] == name) {
                    return p;
                }
            }
            return NONE;
        }

        private void advance() {
            if (!goesOn()) {
                return;
            }
            start = end;
            while (start < length && (text[start] == 10 || text[start] == 32)) {
                start++;
            }
            end = start;
            byte first = start < length ? text[start] : 0;
            if (start == length) {
                kind = END;
            } else if (first >= 'a' && first <= 'z') {
                takeWord();
            } else if (first >= '0' && first <= '9') {
                takeNumber();
            } else {
                kind = first == ';' ? SIGN : BAD;
                end = start + 1;
            }
            if (kind == BAD) {
                fail(NO_TOKEN);
            }
        }

        private void takeNumber() {
            number = 0;
            while (end < length && text[end] >= '0' && text[end] <= '9') {
                // Digits past the longest number don't count: it is no token then.
                if (end - start < LONGEST_NUMBER) {
                    number = number * 10 + text[end] - '0';
                }
                end++;
            }
            kind = end - start <= LONGEST_NUMBER ? NUMBER : BAD;
        }

        private void takeWord() {
            name = 0;
            while (end < length && text[end] >= 'a' && text[end] <= 'z') {
                name = name << LETTER_BITS | text[end] - 'a' + 1;
                end++;
            }
            kind = LONG_WORD;
            if (end - start <= LONGEST_NAME) {
                kind = NAME;
                for (int i = 0; i < MANY_WORDS; i++) {
                    if (words[i] == name) {
                        kind = PERSON + i;
                    }
                }
            }
        }
    }

    /** The lots of a net: their weights, who is reached in one, and sums over all of them. */
    private static final class Lots {
        private final Net net;
        private final long[] weights = new long[MOST_LOTS];

        Lots(Net ofNet) {
            net = ofNet;
            weights[0] = 1;
        }

        int count() {
            return 1 << net.ties;
        }

        /** All weights together. */
        long whole() {
            return 1L << 4 * net.ties;
        }

        void weighAll() {
            weights[0] = 1;
            for (int t = 0; t < net.ties; t++) {
                int half = 1 << t;
                for (int i = 0; i < half; i++) {
                    weights[half + i] = weights[i] * net.odds[t];
                    weights[i] *= SIXTEENTHS - net.odds[t];
                }
            }
        }

        int takers(int seeds, int open) {
            int taken = seeds;
            int told = 0;
            int waiting = net.tiesFrom(seeds) & open;
            for (int step = 0; step < MOST_TIES && waiting != 0; step++) {
                int tie = Integer.numberOfTrailingZeros(waiting);
                waiting &= waiting - 1;
                told |= 1 << tie;
                int person = net.to[tie];
                if (!has(taken | net.stubborn, person) && net.isTold(person, told)) {
                    taken |= 1 << person;
                    waiting |= net.outOf[person] & open;
                }
            }
            return taken;
        }

        int walkedBack(int person, int open) {
            int walked = 1 << person;
            int waiting = tiesHeard(person) & open;
            for (int step = 0; step < MOST_TIES && waiting != 0; step++) {
                int tie = Integer.numberOfTrailingZeros(waiting);
                waiting &= waiting - 1;
                int teller = net.from[tie];
                if (!has(walked, teller)) {
                    walked |= 1 << teller;
                    waiting |= tiesHeard(teller) & open;
                }
            }
            return walked;
        }

        private int tiesHeard(int person) {
            return has(net.stubborn, person) ? 0 : net.into[person];
        }

        /** The sum over all lots of weight times how many are reached, some ties closed. */
        long total(int seeds, int closed) {
            int waiting = net.tiesFrom(seeds) & ~closed;
            return totalFrom(net, seeds, 0, waiting, closed, whole(), 0);
        }

        /*
         * Going through all lots one by one is dear. A tie matters only once its teller is reached
         * and who it leads to is not, so the lots are parted by such ties alone; the others leave
         * their sixteen in the weight. Each level down tells one tie more.
         */
        private static long totalFrom(Net net, int taken, int told, int waiting, int closed, long weight,
                int depth) {
            long sum = 0;
            long left = weight;
            int rest = waiting;
            for (int step = 0; step < MOST_TIES && rest != 0 && left != 0; step++) {
                int tie = Integer.numberOfTrailingZeros(rest);
                rest &= rest - 1;
                int person = net.to[tie];
                if (!has(taken | net.stubborn, person)) {
                    long part = left / SIXTEENTHS;
                    left = part * (SIXTEENTHS - net.odds[tie]);
                    if (net.odds[tie] > 0 && depth < MOST_TIES) {
                        int heard = told | 1 << tie;
                        boolean takes = net.isTold(person, heard);
                        int now = takes ? taken | 1 << person : taken;
                        int next = takes ? rest | net.outOf[person] & ~closed : rest;
                        sum += totalFrom(net, now, heard, next, closed, part * net.odds[tie], depth + 1);
                    }
                }
            }
            return sum + left * Integer.bitCount(taken);
        }

        int drawn(int k) {
            int open = 0;
            for (int t = 0; t < net.ties; t++) {
                long draw = (k * 40503L + t * 9973L + 1299709L) * 69069L / 2048L % SIXTEENTHS;
                if (draw < net.odds[t]) {
                    open |= 1 << t;
                }
            }
            return open;
        }

        int metered(int seeds, int n) {
            int hits = 0;
            for (int k = 0; k < n && net.people > 0; k++) {
                if ((walkedBack(k % net.people, drawn(k)) & seeds) != 0) {
                    hits++;
                }
            }
            return hits;
        }
    }

    /** Chooses seeds to tell and ties to close; the total is that of what was chosen. */
    private static final class Chooser {
        private final Net net;
        private final Lots lots;
        private final long[] growths = new long[MOST_PEOPLE];
        private long total;

        Chooser(Net ofNet, Lots ofLots) {
            net = ofNet;
            lots = ofLots;
        }

        int oneByOne(int many, int purse) {
            int set = 0;
            total = 0;
            for (int i = 0; i < many; i++) {
                int next = bestToAdd(set, many, purse);
                if (next == NONE) {
                    return set;
                }
                set |= 1 << next;
            }
            return set;
        }

        private int bestToAdd(int set, int many, int purse) {
            int who = NONE;
            for (int p = 0; p < net.people; p++) {
                int with = set | 1 << p;
                if (with != set && mayBeChosen(with, many, purse)) {
                    long sum = lots.total(with, 0);
                    if (sum > total) {
                        total = sum;
                        who = p;
                    }
                }
            }
            return who;
        }

        int throughAll(int many, int purse) {
            int chosen = 0;
            total = 0;
            for (int set = 1; set < 1 << net.people; set++) {
                if (mayBeChosen(set, many, purse)) {
                    long sum = lots.total(set, 0);
                    if (sum > total || sum == total && isFewer(set, chosen)) {
                        total = sum;
                        chosen = set;
                    }
                }
            }
            return chosen;
        }

        private static boolean isFewer(int set, int other) {
            return Integer.bitCount(set) < Integer.bitCount(other);
        }

        private boolean mayBeChosen(int set, int many, int purse) {
            if (Integer.bitCount(set) > many) {
                return false;
            }
            int cost = 0;
            for (int p = 0; p < net.people; p++) {
                if (has(set, p)) {
                    cost += net.costs[p];
                }
            }
            return cost <= purse && valleysLet(set);
        }

        private boolean valleysLet(int set) {
            for (int v = 0; v < VALLEYS; v++) {
                int there = 0;
                for (int p = 0; p < net.people; p++) {
                    if (has(set, p) && net.valley[p] == v) {
                        there++;
                    }
                }
                if (there > net.most[v]) {
                    return false;
                }
            }
            return true;
        }

        /** The total of the set chosen last, and so many greatest growths by one more. */
        long withGrowths(int set, int many) {
            for (int p = 0; p < net.people; p++) {
                growths[p] = has(set, p) ? 0 : lots.total(set | 1 << p, 0) - total;
            }
            long sum = total;
            for (int i = 0; i < many; i++) {
                sum += takeGreatestGrowth();
            }
            return sum;
        }

        private long takeGreatestGrowth() {
            int greatest = 0;
            for (int p = 1; p < net.people; p++) {
                if (growths[p] > growths[greatest]) {
                    greatest = p;
                }
            }
            long growth = net.people > 0 ? growths[greatest] : 0;
            growths[greatest] = 0;
            return growth;
        }

        int tiesToClose(int seeds, int many) {
            int chosen = 0;
            total = lots.total(seeds, 0);
            for (int set = 1; set < lots.count(); set++) {
                if (Integer.bitCount(set) <= many) {
                    long sum = lots.total(seeds, set);
                    if (sum < total || sum == total && isFewer(set, chosen)) {
                        total = sum;
                        chosen = set;
                    }
                }
            }
            return chosen;
        }
    }

    /** Two told one behind the other, the second by what was seen of the first, or blindly. */
    private static final class TwoRounds {
        private final Net net;
        private final Lots lots;
        private final int[] takenIn = new int[MOST_LOTS];
        private final int[] viewIn = new int[MOST_LOTS];
        private final long[] sums = new long[MOST_LOTS];
        private final long[] bests = new long[MOST_LOTS];
        private long seenTotal;
        private long blindTotal;

        TwoRounds(Net ofNet, Lots ofLots) {
            net = ofNet;
            lots = ofLots;
        }

        /** Who is told first. */
        int seeing() {
            int who = NONE;
            seenTotal = 0;
            for (int first = 0; first < net.people; first++) {
                long sum = totalSeeing(first);
                if (sum > seenTotal) {
                    seenTotal = sum;
                    who = first;
                }
            }
            return who;
        }

        private long totalSeeing(int first) {
            for (int lot = 0; lot < lots.count(); lot++) {
                takenIn[lot] = lots.takers(1 << first, lot);
                viewIn[lot] = packed(takenIn[lot]);
            }
            Arrays.fill(bests, 0L);
            for (int second = 0; second < net.people; second++) {
                sumByView(second);
                for (int view = 0; view < MOST_LOTS; view++) {
                    bests[view] = Math.max(bests[view], sums[view]);
                }
            }
            long sum = 0;
            for (int view = 0; view < MOST_LOTS; view++) {
                sum += bests[view];
            }
            return sum;
        }

        private void sumByView(int second) {
            Arrays.fill(sums, 0L);
            for (int lot = 0; lot < lots.count(); lot++) {
                if (lots.weights[lot] != 0) {
                    int taken = takenIn[lot];
                    if (!has(taken, second)) {
                        taken = lots.takers(taken | 1 << second, lot);
                    }
                    sums[viewIn[lot]] += lots.weights[lot] * Integer.bitCount(taken);
                }
            }
        }

        /*
         * Of one first told, who else is reached tells the views apart, and only those to whom a
         * tie leads can be: these are no more than the ties, so a view fits in as many bits.
         */
        private int packed(int taken) {
            int view = 0;
            int bit = 1;
            for (int p = 0; p < net.people; p++) {
                if (net.into[p] != 0) {
                    view |= has(taken, p) ? bit : 0;
                    bit <<= 1;
                }
            }
            return view;
        }

        /** The set of one or two told at once. */
        int blindly() {
            int chosen = 0;
            blindTotal = 0;
            for (int set = 1; set < 1 << net.people; set++) {
                int size = Integer.bitCount(set);
                if (size <= 2) {
                    long sum = lots.total(set, 0);
                    if (sum > blindTotal || sum == blindTotal && size < Integer.bitCount(chosen)) {
                        blindTotal = sum;
                        chosen = set;
                    }
                }
            }
            return chosen;
        }
    }

    /** What happens hour by hour in one lot. */
    private static final class Story {
        // Nothing lies further ahead than 5 hours, so the hours' rows go round in 8.
        private static final int ROUND = 8;

        private final Net net;
        private final int[] tookIn = new int[MOST_PEOPLE];
        private final int[] takersAhead = new int[ROUND];
        private final int[] tiesAhead = new int[ROUND];
        private int open;
        private int decided;
        private int red;
        private int redTies;
        private int took;
        private int told;
        private int sent;

        Story(Net ofNet) {
            net = ofNet;
        }

        void play(int reds, int blues, int blueHour, int openTies) {
            Arrays.fill(takersAhead, 0);
            Arrays.fill(tiesAhead, 0);
            open = openTies;
            decided = reds;
            red = reds;
            redTies = net.tiesFrom(reds);
            took = 0;
            told = 0;
            sent = 0;
            takersAhead[0] = reds;
            for (int hour = 0; hour <= LAST_HOUR; hour++) {
                if (hour == blueHour) {
                    takersAhead[hour % ROUND] |= blues & ~decided;
                    decided |= blues;
                }
                hear(hour);
                take(hour);
                if (hour >= blueHour && took == decided && told == sent) {
                    return;
                }
            }
        }

        private void hear(int hour) {
            int now = tiesAhead[hour % ROUND];
            tiesAhead[hour % ROUND] = 0;
            told |= now;
            for (int t = 0; t < net.ties && now >> t != 0; t++) {
                int person = net.to[t];
                if (has(now, t) && !has(decided | net.stubborn, person) && net.isTold(person, told)) {
                    decide(person, hour);
                }
            }
        }

        private void decide(int person, int hour) {
            int heard = net.into[person] & told;
            decided |= 1 << person;
            if (2 * Integer.bitCount(heard & redTies) >= Integer.bitCount(heard)) {
                red |= 1 << person;
                redTies |= net.outOf[person];
            }
            takersAhead[(hour + net.late[person]) % ROUND] |= 1 << person;
        }

        private void take(int hour) {
            int now = takersAhead[hour % ROUND];
            takersAhead[hour % ROUND] = 0;
            took |= now;
            for (int p = 0; p < net.people && now >> p != 0; p++) {
                if (has(now, p)) {
                    tookIn[p] = hour;
                    tell(net.outOf[p] & open, hour);
                }
            }
        }

        private void tell(int ties, int hour) {
            sent |= ties;
            for (int t = 0; t < net.ties && ties >> t != 0; t++) {
                if (has(ties, t)) {
                    tiesAhead[(hour + net.hours[t]) % ROUND] |= 1 << t;
                }
            }
        }

        int hourOf(int person) {
            return has(took, person) ? tookIn[person] : NONE;
        }

        int tookBy(int hour) {
            int set = 0;
            for (int p = 0; p < net.people; p++) {
                if (has(took, p) && tookIn[p] <= hour) {
                    set |= 1 << p;
                }
            }
            return set;
        }

        /** The tie that moved one who took and is no seed. */
        int moverOf(int person, int openTies) {
            int decidedIn = tookIn[person] - net.late[person];
            int mover = NONE;
            int lastTold = NONE;
            for (int t = 0; t < net.ties; t++) {
                int teller = net.from[t];
                if (has(openTies & net.into[person], t) && has(took, teller)) {
                    int toldIn = tookIn[teller] + net.hours[t];
                    if (toldIn <= decidedIn && toldIn > lastTold) {
                        lastTold = toldIn;
                        mover = t;
                    }
                }
            }
            return mover;
        }
    }

    /** Sums of stories over all lots. */
    private static final class Means {
        private final Net net;
        private final Lots lots;
        private final Story story;
        private final long[] sources = new long[MOST_PEOPLE];
        private long answered;

        Means(Net ofNet, Lots ofLots, Story ofStory) {
            net = ofNet;
            lots = ofLots;
            story = ofStory;
        }

        long fought(int reds, int blues, int hour, boolean ofRed) {
            long sum = 0;
            for (int lot = 0; lot < lots.count(); lot++) {
                if (lots.weights[lot] != 0) {
                    story.play(reds, blues, hour, lot);
                    int takers = ofRed ? story.took & story.red : story.took & ~story.red;
                    sum += lots.weights[lot] * Integer.bitCount(takers);
                }
            }
            return sum;
        }

        int bestAnswer(int reds, int hour) {
            int who = NONE;
            answered = NONE;
            for (int p = 0; p < net.people; p++) {
                long sum = fought(reds, 1 << p, hour, false);
                if (sum > answered) {
                    answered = sum;
                    who = p;
                }
            }
            return who;
        }

        int lastHour(int reds, int person) {
            long alone = fought(reds, 0, 0, true);
            for (int hour = LAST_BLUE_HOUR; hour >= 0; hour--) {
                if (2 * fought(reds, 1 << person, hour, true) <= alone) {
                    return hour;
                }
            }
            return NONE;
        }

        /** The weight, by each who may have begun it, of all lots in which what is seen comes out; their sum. */
        long weighSources(long[] seen, int hour) {
            int had = 0;
            int hadNot = 0;
            for (int p = 0; p < net.people && p < seen.length; p++) {
                had |= seen[p] == 1 ? 1 << p : 0;
                hadNot |= seen[p] == 0 ? 1 << p : 0;
            }
            long all = 0;
            for (int p = 0; p < net.people; p++) {
                sources[p] = has(hadNot, p) ? 0 : weighSource(p, hour, had, hadNot);
                all += sources[p];
            }
            return all;
        }

        private long weighSource(int person, int hour, int had, int hadNot) {
            long sum = 0;
            for (int lot = 0; lot < lots.count(); lot++) {
                if (lots.weights[lot] != 0) {
                    story.play(1 << person, 0, 0, lot);
                    int by = story.tookBy(hour);
                    if ((by & had) == had && (by & hadNot) == 0) {
                        sum += lots.weights[lot];
                    }
                }
            }
            return sum;
        }
    }

    /** Runs that were seen, and what they say of ties. */
    private static final class RunBook {
        private static final int MOST = 15;
        private static final int MOST_WAYS = 5040;

        private final Net net;
        private final int[][] runs = new int[MOST][MOST_PEOPLE];
        private final int[] dealt = new int[MOST_PEOPLE];
        private int count;

        RunBook(Net ofNet) {
            net = ofNet;
        }

        void forgetAll() {
            count = 0;
        }

        int keep(long[] hours) {
            if (count >= MOST) {
                return NONE;
            }
            for (int p = 0; p < net.people && p < hours.length; p++) {
                runs[count][p] = (int) hours[p];
            }
            count++;
            return count - 1;
        }

        private boolean wasTried(int tie, int[] hours) {
            int teller = hours[net.from[tie]];
            int other = hours[net.to[tie]];
            return teller != NONE && (other == NONE || other >= teller + net.hours[tie]);
        }

        private boolean didTell(int tie, int[] hours) {
            int teller = hours[net.from[tie]];
            int person = net.to[tie];
            return teller != NONE && hours[person] == teller + net.hours[tie] + net.late[person];
        }

        int timesTried(int tie) {
            int times = 0;
            for (int r = 0; r < count; r++) {
                times += wasTried(tie, runs[r]) ? 1 : 0;
            }
            return times;
        }

        private int timesTold(int tie) {
            int times = 0;
            for (int r = 0; r < count; r++) {
                times += didTell(tie, runs[r]) ? 1 : 0;
            }
            return times;
        }

        int likeliestOdds(int tie) {
            int told = timesTold(tie);
            int untold = timesTried(tie) - told;
            int likeliest = 0;
            long most = NONE;
            for (int odds = 0; odds <= SIXTEENTHS; odds++) {
                // At most 15 runs: no more than 16 to the power of 15, which a long holds.
                long likely = power(odds, told) * power(SIXTEENTHS - odds, untold);
                if (likely > most) {
                    most = likely;
                    likeliest = odds;
                }
            }
            return likeliest;
        }

        private static long power(long base, int times) {
            long product = 1;
            for (int i = 0; i < times; i++) {
                product *= base;
            }
            return product;
        }

        int untriedTies() {
            int set = 0;
            for (int t = 0; t < net.ties; t++) {
                set |= timesTried(t) == 0 ? 1 << t : 0;
            }
            return set;
        }

        int toldIn(int run) {
            return tiesThatTold(runs[run]);
        }

        private int tiesThatTold(int[] hours) {
            int told = 0;
            for (int t = 0; t < net.ties; t++) {
                told += didTell(t, hours) ? 1 : 0;
            }
            return told;
        }

        /** NONE if they are too many. */
        int waysToDeal() {
            long ways = 1;
            for (int p = 0; p < net.people; p++) {
                int there = 1;
                for (int q = 0; q < p; q++) {
                    there += net.valley[q] == net.valley[p] ? 1 : 0;
                }
                ways *= there;
            }
            return ways > MOST_WAYS ? NONE : (int) ways;
        }

        int waysAsGood(int run) {
            return waysFrom(this, runs[run], 0, 0, toldIn(run));
        }

        /** Of the ways to deal hours to the people from one on, as others were given, how many let enough ties tell. */
        private static int waysFrom(RunBook book, int[] hours, int person, int given, int wanted) {
            Net net = book.net;
            if (person >= net.people) {
                return book.tiesThatTold(book.dealt) >= wanted ? 1 : 0;
            }
            int ways = 0;
            for (int other = 0; other < net.people; other++) {
                if (!has(given, other) && net.valley[other] == net.valley[person]) {
                    book.dealt[person] = hours[other];
                    ways += waysFrom(book, hours, person + 1, given | 1 << other, wanted);
                }
            }
            return ways;
        }
    }
}
