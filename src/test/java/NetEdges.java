/** Boundary cases of promises 9 to 15: the tape, net, fault, many, person, tie, refuse. */
final class NetEdges {
    private static final int BLANKS = 0x20202020;

    private final Edges e;

    NetEdges(Edges edges) {
        e = edges;
    }

    void all() {
        bytesOfAnInt();
        fullTape();
        partOfTheTape();
        emptiedTape();
        oldNetStays();
        netInPlaceOfThatAhead();
        faultOfTheLatest();
        faultOfOthers();
        many();
        person();
        tie();
        refuse();
    }

    private static int four(String signs) {
        return signs.charAt(0) << 24 | signs.charAt(1) << 16 | signs.charAt(2) << 8 | signs.charAt(3);
    }

    private static int feedPerson(TellFirst x) {
        return x.feed(four("pers"), four("on a"), four(";per"), four("son "), four("bcd;"));
    }

    private void bytesOfAnInt() {
        e.sentence(9, "Twenty bytes come behind those on the tape, the highest of each int first: how many it has");
        TellFirst x = new TellFirst();
        e.insideIs("the first twenty", x.feed(four("pers"), four("on a"), BLANKS, BLANKS, BLANKS), 20);
        e.insideIs("twenty behind them", x.feed(BLANKS, BLANKS, BLANKS, BLANKS, four("   ;")), 40);
        e.inside(x, "in their order", x.net(40), 1);
        x.feed(four("srep"), four("a no"), four(";   "), BLANKS, BLANKS);
        e.outside(x, "the lowest first is another text", x.net(20), 10);
        x.feed(BLANKS, BLANKS, BLANKS, BLANKS, 0x2020203B);
        x.net(20);
        e.insideIs("the last byte of the last int", x.fault(1), 19);
        x.feed(0x3B202020, BLANKS, BLANKS, BLANKS, BLANKS);
        x.net(20);
        e.insideIs("the first byte of the first int", x.fault(1), 0);
        x.feed(0x80000000, BLANKS, BLANKS, BLANKS, BLANKS);
        x.net(20);
        e.outsideIs("a byte of 128 is no token", x.fault(0), 1);
    }

    private void fullTape() {
        e.sentence(9, "NONE if there would be more than 600");
        TellFirst x = new TellFirst();
        feedPerson(x);
        for (int i = 2; i < 30; i++) {
            x.feed(BLANKS, BLANKS, BLANKS, BLANKS, BLANKS);
        }
        e.insideIs("the 30th", x.feed(BLANKS, BLANKS, BLANKS, BLANKS, BLANKS), 600);
        e.outsideIs("the 31st", x.feed(0, 0, 0, 0, 0), -1);
        e.outsideIs("the 32nd", x.feed(0, 0, 0, 0, 0), -1);
        e.outside(x, "net(601)", x.net(601), 5);
        e.inside(x, "the 600 are as they were", x.net(600), 2);
        e.insideIs("there is room again", feedPerson(x), 20);
        e.sentence(10, "A NET is a TEXT of at most 600 bytes");
        String text = "person a;" + " ".repeat(582) + "person b;";
        x = new TellFirst();
        e.inside(x, "a net of 600", Checks.net(x, text), 2);
        x = new TellFirst();
        Checks.feed(x, Checks.bytes(text + "person c;"));
        e.outside(x, "a net of 609", x.net(609), 5);
        e.outside(x, "a net of 601", x.net(601), 5);
    }

    private void partOfTheTape() {
        e.sentence(10, "The first n bytes of the tape");
        for (int n : new int[] {-1, 21, Integer.MIN_VALUE, Integer.MAX_VALUE}) {
            TellFirst x = new TellFirst();
            feedPerson(x);
            e.outside(x, "net(" + n + ") of 20", x.net(n), 5);
        }
        int[][] nets = {{0, 0}, {9, 1}, {20, 2}};
        for (int[] net : nets) {
            TellFirst x = new TellFirst();
            feedPerson(x);
            e.inside(x, "net(" + net[0] + ") of 20", x.net(net[0]), net[1]);
        }
        TellFirst x = new TellFirst();
        feedPerson(x);
        e.outside(x, "net(19) lacks the last sign", x.net(19), 10);
        e.outsideIs("the end is the text's length, not the tape's", x.fault(1), 19);
        Checks.feed(x, Checks.bytes("person ab in 123;   "));
        e.outside(x, "net(14) ends in a number", x.net(14), 10);
        e.outsideIs("its one digit can be: the end", x.fault(0), 2);
        e.outsideIs("its place", x.fault(1), 14);
        Checks.feed(x, Checks.bytes("person a;person abc;"));
        e.outside(x, "net(17) ends in a word", x.net(17), 10);
        e.outsideIs("its one letter is a name that is there", x.fault(0), 3);
        Checks.feed(x, Checks.bytes("person ab in 1230;  "));
        e.outside(x, "net(16) ends in a number", x.net(16), 10);
        e.outsideIs("its three digits are a number", x.fault(0), 4);
    }

    private void emptiedTape() {
        e.sentence(10, "which is empty then, but for 5");
        TellFirst x = new TellFirst();
        feedPerson(x);
        e.outside(x, "net(21)", x.net(21), 5);
        e.outsideIs("the tape stays", feedPerson(x), 40);
        e.outside(x, "net(41)", x.net(41), 5);
        e.inside(x, "net(20)", x.net(20), 2);
        e.insideIs("empty behind 0", feedPerson(x), 20);
        e.outside(x, "net(8), a fault", x.net(8), 10);
        e.insideIs("empty behind 10", feedPerson(x), 20);
        e.inside(x, "net(0)", x.net(0), 0);
        e.insideIs("empty behind net(0)", feedPerson(x), 20);
    }

    private void oldNetStays() {
        e.sentence(10, "are the NET: how many PEOPLE (5; 10: the old one stays)");
        TellFirst x = Checks.made("person a in 2 stubborn;person b;tie a to b odds 5 hours 3;valley 2 most 0;");
        e.outside(x, "a fault at its very end", Checks.net(x, "person c;person d;person e;tie c to d odds 9"), 10);
        e.outsideIs("people", x.many(0), 2);
        e.outsideIs("a's valley", x.person(0, 0), 2);
        e.outsideIs("a is stubborn", x.person(0, 3), 1);
        e.outsideIs("the tie's odds", x.tie(0, 2), 5);
        e.outsideIs("the tie's weight", x.weight(1), 5);
        e.outsideIs("the valley's most", x.best(2, 9), 2);
        e.outside(x, "net(-1)", x.net(-1), 5);
        e.outsideIs("people", x.many(0), 2);
        e.inside(x, "no fault", Checks.net(x, "person c;person d;person e;tie c to d odds 9;"), 3);
        e.insideIs("people", x.many(0), 3);
        e.insideIs("c is in no told valley", x.person(0, 0), 0);
        e.insideIs("c is not stubborn", x.person(0, 3), 0);
        e.insideIs("the tie's weight", x.weight(1), 9);
    }

    private void netInPlaceOfThatAhead() {
        e.sentence(10, "A NET that is taken is there in place of that ahead; all RUNS are gone then");
        TellFirst x = Checks.made("person a;person b;tie a to b odds 5;");
        Checks.fill(x, 0, 0, 0, 1);
        for (int i = 0; i < 15; i++) {
            x.run(0);
        }
        e.outside(x, "a net with a fault", Checks.net(x, "person"), 10);
        e.outside(x, "the runs are there, all 15", x.run(0), 7);
        e.inside(x, "the same net once more", Checks.net(x, "person a;person b;tie a to b odds 5;"), 2);
        e.outside(x, "no run is there", x.telling(0), 2);
        e.inside(x, "nothing was tried", x.neverTried(), 1);
        e.inside(x, "the first run", x.run(0), 0);
        e.inside(x, "a net of none", x.net(0), 0);
        e.outside(x, "no run is there", x.telling(0), 2);
        e.outside(x, "no person is there", x.person(0, 0), 2);
        Checks.net(x, "person a;");
        x.refuse(0, true);
        Checks.net(x, "person a;");
        e.inside(x, "stubborn no more", x.person(0, 3), 0);
        nothingOfThatAhead();
    }

    private void nothingOfThatAhead() {
        TellFirst x = Checks.made("person a in 1 needs 3 late 5 stubborn costs 9;person b in 2 needs 2 late 4 costs 8;"
            + "valley 1 most 0;tie a to b odds 16 hours 5 back;");
        e.outsideIs("the first is late", x.person(0, 2), 5);
        e.inside(x, "the same names", Checks.net(x, "person a;person b;valley 1 most 1;"), 2);
        int[] plain = {0, 1, 0, 0, 1};
        for (int what = 0; what < 5; what++) {
            e.inside(x, "person(0, " + what + ")", x.person(0, what), plain[what]);
            e.inside(x, "person(1, " + what + ")", x.person(1, what), plain[what]);
        }
        e.inside(x, "no ties", x.many(1), 0);
        e.inside(x, "b was not told", x.reached(1, 0), 1);
        e.inside(x, "the tie once more", Checks.net(x, "person a;person b;tie a to b odds 16;"), 2);
        e.inside(x, "b is told", x.reached(1, 1), 3);
        e.inside(x, "a is not told back", x.reached(2, 1), 2);
        e.inside(x, "one tie into b", x.backWalk(1, 1), 3);
        e.inside(x, "b's hour", x.lead(1, 1, 1, 1), 1);
        e.inside(x, "b needs 2 of one tie", Checks.net(x, "person a;person b needs 2;tie a to b odds 16;"), 2);
        e.outsideIs("none of that ahead tells", x.reached(1, 1), 1);
        e.inside(x, "tie 0 of another one", Checks.net(x, "person a;person b;person c;tie b to c odds 16;"), 3);
        e.outsideIs("a tells nobody", x.reached(1, 1), 1);
        String text = "person a;person b needs 2;person c;tie c to a odds 16;tie a to b odds 16;";
        e.inside(x, "two ties", Checks.net(x, "person a;person b;person c;tie a to b odds 16;"), 3);
        e.inside(x, "tie 0 to another one", Checks.net(x, text), 3);
        e.outsideIs("b is told by one of two", x.reached(4, 3), 5);
    }

    private void faultOfTheLatest() {
        e.sentence(11, "Of the latest net() with STATUS 0 or 10, what 0: the FAULT (0 without one), 1: its place "
            + "(NONE without)");
        TellFirst x = new TellFirst();
        Checks.net(x, "person 9;");
        e.outsideIs("the fault", x.fault(0), 2);
        e.outsideIs("its place", x.fault(1), 7);
        e.outside(x, "a net() with 5", x.net(1), 5);
        e.outsideIs("the fault stays", x.fault(0), 2);
        e.outsideIs("its place stays", x.fault(1), 7);
        Checks.net(x, "person a;");
        e.insideIs("no fault", x.fault(0), 0);
        e.insideIs("no place", x.fault(1), -1);
        x.net(1);
        e.insideIs("no fault behind a 5", x.fault(0), 0);
        Checks.net(x, ";");
        e.outsideIs("a fault at place 0", x.fault(1), 0);
        Checks.net(x, "person" + " ".repeat(594));
        e.outsideIs("a fault at place 600", x.fault(1), 600);
    }

    private void faultOfOthers() {
        e.sentence(11, "NONE for others, and ahead of any");
        TellFirst x = new TellFirst();
        e.outsideIs("fault(0) ahead of any", x.fault(0), -1);
        e.outsideIs("fault(1) ahead of any", x.fault(1), -1);
        x.net(1);
        e.outsideIs("fault(0) ahead of any but one with 5", x.fault(0), -1);
        Checks.net(x, "person a;;");
        e.insideIs("fault(0)", x.fault(0), 2);
        e.insideIs("fault(1)", x.fault(1), 9);
        for (int what : new int[] {-1, 2, Integer.MIN_VALUE, Integer.MAX_VALUE}) {
            e.outsideIs("fault(" + what + ")", x.fault(what), -1);
        }
    }

    private void many() {
        e.sentence(12, "How many PEOPLE (what 0), TIES (1) (5)");
        TellFirst x = Checks.made(Edges.people(12) + Edges.star(10, 3));
        e.inside(x, "people", x.many(0), 12);
        e.inside(x, "ties", x.many(1), 10);
        e.outside(x, "many(-1)", x.many(-1), 5);
        e.outside(x, "many(2)", x.many(2), 5);
        x.net(0);
        e.inside(x, "no people", x.many(0), 0);
        e.inside(x, "no ties", x.many(1), 0);
        e.outside(x, "many(2) of none", x.many(2), 5);
    }

    private void person() {
        e.sentence(13, "Of a person, what 0: its VALLEY, 1: NEEDS, 2: LATE, 3: STUBBORN (1, 0), 4: COSTS (2; 5)");
        TellFirst x = Checks.made(Edges.people(11) + "person l in 3 needs 2 late 5 stubborn costs 99;");
        int[] first = {0, 1, 0, 0, 1};
        int[] last = {3, 2, 5, 1, 99};
        for (int what = 0; what < 5; what++) {
            e.inside(x, "person(0, " + what + ")", x.person(0, what), first[what]);
            e.inside(x, "person(11, " + what + ")", x.person(11, what), last[what]);
        }
        e.outside(x, "person(-1, 0)", x.person(-1, 0), 2);
        e.outside(x, "person(12, 0)", x.person(12, 0), 2);
        e.outside(x, "person(11, -1)", x.person(11, -1), 5);
        e.outside(x, "person(11, 5)", x.person(11, 5), 5);
        e.outside(x, "2 ahead of 5", x.person(12, 5), 2);
        Checks.net(x, "person a;");
        e.outside(x, "person(1, 0) of one", x.person(1, 0), 2);
    }

    private void tie() {
        e.sentence(14, "Of a TIE, what 0: from, 1: to, 2: ODDS, 3: HOURS (2; 5)");
        TellFirst x = Checks.made(Edges.people(12) + Edges.star(9, 3) + "tie l to a odds 16 hours 5;");
        int[] first = {0, 1, 3, 1};
        int[] last = {11, 0, 16, 5};
        for (int what = 0; what < 4; what++) {
            e.inside(x, "tie(0, " + what + ")", x.tie(0, what), first[what]);
            e.inside(x, "tie(9, " + what + ")", x.tie(9, what), last[what]);
        }
        e.outside(x, "tie(-1, 0)", x.tie(-1, 0), 2);
        e.outside(x, "tie(10, 0)", x.tie(10, 0), 2);
        e.outside(x, "tie(9, -1)", x.tie(9, -1), 5);
        e.outside(x, "tie(9, 4)", x.tie(9, 4), 5);
        e.outside(x, "2 ahead of 5", x.tie(10, 4), 2);
        Checks.net(x, "person a;person b;tie a to b odds 1;");
        e.outside(x, "tie(1, 0) of one", x.tie(1, 0), 2);
    }

    private void refuse() {
        e.sentence(15, "A person is STUBBORN, or no more: one who says no (2)");
        TellFirst x = Checks.made(Edges.people(12) + "tie a to l odds 16;");
        e.inside(x, "refuse(11, true)", x.refuse(11, true));
        e.insideIs("who says no", x.reached(1, 1), 1);
        e.insideIs("it is stubborn", x.person(11, 3), 1);
        e.inside(x, "refuse(11, true) again", x.refuse(11, true));
        e.insideIs("it is stubborn", x.person(11, 3), 1);
        e.outside(x, "refuse(12, false)", x.refuse(12, false), 2);
        e.outside(x, "refuse(-1, false)", x.refuse(-1, false), 2);
        // 43 is 11 and 32: a shift alone would take it for 11.
        e.outside(x, "refuse(43, false)", x.refuse(43, false), 2);
        e.outsideIs("it is stubborn yet", x.person(11, 3), 1);
        e.inside(x, "refuse(11, false)", x.refuse(11, false));
        e.insideIs("who says no no more", x.reached(1, 1), 1 | 1 << 11);
        e.insideIs("it is not stubborn", x.person(11, 3), 0);
        e.inside(x, "refuse(0, true)", x.refuse(0, true));
        e.insideIs("one who tells may be stubborn", x.reached(1, 1), 1 | 1 << 11);
    }
}
