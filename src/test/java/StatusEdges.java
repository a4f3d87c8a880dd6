/** Boundary cases of STATUS: what each number is for, which comes first, and that a refused call changes nothing. */
final class StatusEdges {
    /** A call; a boolean counts -1 for false, so that a refused one always answers NONE. */
    private interface Call {
        long on(TellFirst x);
    }

    private final Edges e;

    StatusEdges(Edges edges) {
        e = edges;
    }

    void all() {
        trayNumbers();
        noSuch();
        missing();
        fewNumbers();
        wrongNumbers();
        tooMany();
        thereIsNone();
        cannotBe();
        faults();
        firstThatHolds();
        refusedTrayCalls();
        refusedSetCalls();
        refusedNumberCalls();
        refusedTaleCalls();
        refusedRunCalls();
        refusedOfNone();
        refusedNet();
    }

    private static long flag(boolean is) {
        return is ? 1 : -1;
    }

    private void trayNumbers() {
        e.sentence(2, "1 no such TRAY (or sort)");
        TellFirst x = Checks.made("person a;");
        Checks.fill(x, 3, 0, 1);
        e.inside(x, "tray 3", x.read(3, 0), 1);
        e.inside(x, "sort 3", x.tray(0, 3, 1));
        for (int tray : new int[] {-1, 4}) {
            e.outside(x, "tray", x.tray(tray, 0, 1), 1);
            e.outside(x, "write", x.write(tray, 0, 1), 1);
            e.outside(x, "read", x.read(tray, 0), 1);
            e.outside(x, "pour from", x.pour(tray, 0, 3, 0, 1), 1);
            e.outside(x, "pour to", x.pour(3, 0, tray, 0, 1), 1);
            e.outside(x, "source", x.source(tray, 0, 0), 1);
            e.outside(x, "run", x.run(tray), 1);
            e.outside(x, "check", x.check(1, 0, tray), 1);
            e.outside(x, "sort", x.tray(0, tray, 1), 1);
        }
    }

    private void noSuch() {
        e.sentence(2, "2 no such person, TIE, VALLEY, RUN; a set with others");
        TellFirst x = Checks.made("person a;person b;tie a to b odds 8;");
        Checks.fill(x, 0, 0, 0, 1);
        x.run(0);
        e.inside(x, "the last person", x.person(1, 0), 0);
        e.inside(x, "the last tie", x.tie(0, 0), 0);
        e.inside(x, "the last run", x.telling(0), 1);
        e.inside(x, "the greatest set of people", x.reached(3, 0), 3);
        e.inside(x, "the greatest set of ties", x.reached(1, 1), 3);
        e.outside(x, "a person more", x.person(2, 0), 2);
        e.outside(x, "a tie more", x.tie(1, 0), 2);
        e.outside(x, "a run more", x.telling(1), 2);
        e.outside(x, "a set with a third", x.reached(4, 0), 2);
        e.outside(x, "a set with a third and those there are", x.reached(7, 0), 2);
        e.outside(x, "a set with a second tie", x.reached(1, 2), 2);
        e.outside(x, "a set with a 32nd", x.reached(Integer.MIN_VALUE | 1, 0), 2);
    }

    private void missing() {
        e.sentence(2, "3 the TRAY is MISSING");
        TellFirst x = Checks.made("");
        e.outside(x, "read", x.read(0, 0), 3);
        e.outside(x, "write", x.write(0, 0, 1), 3);
        e.outside(x, "run", x.run(0), 3);
        e.outside(x, "check", x.check(0, 0, 0), 3);
        e.outside(x, "pour", x.pour(0, 0, 0, 0, 0), 3);
        x.tray(0, 0, 0);
        // A tray of no numbers is there.
        e.outside(x, "read of none", x.read(0, 0), 4);
        e.inside(x, "run of none", x.run(0), 0);
        e.inside(x, "check of none", x.check(0, 0, 0), -1);
        e.inside(x, "pour of none", x.pour(0, 0, 0, 0, 0));
    }

    private void fewNumbers() {
        e.sentence(2, "4 a place that the TRAY has not, or too few numbers");
        TellFirst x = Checks.made("person a;person b;");
        Checks.fill(x, 0, 0, 0);
        e.inside(x, "place 0 of one", x.read(0, 0), 0);
        e.outside(x, "place 1 of one", x.read(0, 1), 4);
        e.outside(x, "source", x.source(0, 0, 0), 4);
        e.outside(x, "run", x.run(0), 4);
        e.outside(x, "check", x.check(1, 0, 0), 4);
        Checks.fill(x, 0, 0, 0, -1);
        e.inside(x, "run", x.run(0), 0);
        e.inside(x, "check", x.check(1, 0, 0), -1);
        Checks.fill(x, 0, 0, 1, -1);
        e.inside(x, "source", x.source(0, 0, 0));
    }

    private void wrongNumbers() {
        e.sentence(2, "5 a number that can't be");
        TellFirst x = Checks.made("person a;");
        e.inside(x, "many(1)", x.many(1), 0);
        e.outside(x, "many(2)", x.many(2), 5);
        e.inside(x, "lot(9999)", x.lot(9999), 0);
        e.outside(x, "lot(10000)", x.lot(10000), 5);
        e.sentence(2, "6 below 0 (a TRAY's length)");
        e.inside(x, "a tray of 0", x.tray(0, 0, 0));
        e.outside(x, "a tray of -1", x.tray(0, 0, -1), 6);
        e.inside(x, "pour of 0", x.pour(0, 0, 0, 0, 0));
        e.outside(x, "pour of -1", x.pour(0, 0, 0, 0, -1), 6);
        e.sentence(2, "11 TRAYS of unlike sorts");
        for (int sort = 0; sort < 4; sort++) {
            x.tray(1, sort, 1);
            for (int other = 0; other < 4; other++) {
                x.tray(2, other, 1);
                if (other == sort) {
                    e.inside(x, "sort " + sort + " to its like", x.pour(1, 0, 2, 0, 1));
                } else {
                    e.outside(x, "sort " + sort + " to " + other, x.pour(1, 0, 2, 0, 1), 11);
                }
            }
        }
        e.sentence(2, "0 else");
        e.inside(x, "many(0)", x.many(0), 1);
        e.outside(x, "many(-1)", x.many(-1), 5);
    }

    private void tooMany() {
        e.sentence(2, "7 one too many");
        TellFirst x = new TellFirst();
        x.tray(0, 0, 0);
        for (int run = 0; run < 15; run++) {
            e.inside(x, "run " + run, x.run(0), run);
        }
        e.outside(x, "run 15", x.run(0), 7);
    }

    private void thereIsNone() {
        e.sentence(2, "8 there is none");
        TellFirst none = new TellFirst();
        e.outside(none, "rounds", none.rounds(0), 8);
        e.outside(none, "answer", none.answer(0, 0), 8);
        e.outside(none, "meter", none.meter(0, 1), 8);
        TellFirst x = Checks.made("person a;person b;tie a to b odds 8;");
        e.outside(x, "likeliest", x.likeliest(0), 8);
        e.outside(x, "lead", x.lead(1, 0, 1, 1), 8);
        e.inside(x, "rounds of some", x.rounds(0), 0);
        e.inside(x, "answer of some", x.answer(0, 0), 0);
        e.inside(x, "meter of some", x.meter(0, 1), 0);
        Checks.fill(x, 0, 0, 0, 1);
        x.run(0);
        e.inside(x, "likeliest then", x.likeliest(0), 16);
        e.inside(x, "lead in another lot", x.lead(1, 1, 1, 1), 1);
    }

    private void cannotBe() {
        e.sentence(2, "9 it can't be");
        TellFirst x = Checks.made("person a;person b;tie a to b odds 16;");
        e.inside(x, "latest", x.latest(1, 1), 1);
        e.outside(x, "latest of a red seed", x.latest(1, 0), 9);
        Checks.fill(x, 0, 0, 1, 0);
        e.inside(x, "source", x.source(0, 0, 0));
        e.outside(x, "source in none", x.source(0, 1, 0), 9);
        x = Checks.made(Edges.people(8));
        Checks.fill(x, 0, 0, 0, 0, 0, 0, 0, 0, 0, 0);
        x.run(0);
        e.outside(x, "telling of eight", x.telling(0), 9);
    }

    private void faults() {
        e.sentence(2, "10 a FAULT");
        TellFirst x = new TellFirst();
        e.outside(x, "a net without its last sign", Checks.net(x, "person a"), 10);
        e.inside(x, "with it", Checks.net(x, "person a;"), 1);
    }

    private void firstThatHolds() {
        e.sentence(2, "STATUS of a call is the first of these that holds");
        TellFirst x = Checks.made("person a;person b;tie a to b odds 8;");
        e.outside(x, "1, 5", x.tray(4, 0, 41), 1);
        e.outside(x, "1, 6", x.tray(0, 4, -1), 1);
        e.outside(x, "2, 5 of person", x.person(2, 5), 2);
        e.outside(x, "2, 5 of tie", x.tie(1, 4), 2);
        e.outside(x, "2, 5 of fight", x.fight(4, 4, 21, 2), 2);
        e.outside(x, "2, 5 of answer", x.answer(4, 21), 2);
        e.outside(x, "2, 5 of stops", x.stops(4, 4), 2);
        e.outside(x, "2, 5 of lead", x.lead(4, 2, 2, 2), 2);
        e.outside(x, "2, 5 of meter", x.meter(4, 501), 2);
        e.outside(x, "5, 8 of lead", x.lead(0, 0, 0, 2), 5);
        TellFirst none = new TellFirst();
        e.outside(none, "2, 5, 8 of answer", none.answer(1, 21), 2);
        e.outside(none, "5, 8 of answer", none.answer(0, 21), 5);
        e.outside(none, "2, 5, 8 of meter", none.meter(1, 0), 2);
        e.outside(none, "5, 8 of meter", none.meter(0, 0), 5);
        e.outside(none, "5, 8 of rounds", none.rounds(3), 5);
        e.inside(x, "none holds", x.person(1, 4), 1);
    }

    // ---- a refused call changes nothing

    /**
     * Eight people of one valley, fifteen runs in which tie 1 was never tried, a fraction told, bytes
     * on the tape and a fault; tray 0 of hours, 1 missing, 2 of another sort and too short, 3 with 200.
     */
    private static TellFirst full() {
        TellFirst x = Checks.made(Edges.people(7) + "person h late 3 costs 7 stubborn;tie a to b odds 8;"
            + "tie g to h odds 4 hours 2;valley 0 most 3;");
        Checks.net(x, "person 7;");
        Checks.fill(x, 0, 2, 0, 1, -1, -1, 5, 6, -1, 7);
        for (int run = 0; run < 15; run++) {
            x.run(0);
        }
        Checks.fill(x, 0, 2, 0, 0, 0, 0, 0, 0, 0, 0);
        Checks.fill(x, 2, 1, 11, 12, 13);
        Checks.fill(x, 3, 2, 200, 21, 22, 23, 24, 25, 26, 27);
        x.spread(1, 0);
        Checks.feed(x, Checks.bytes("person q; person r; "));
        return x;
    }

    private static TellFirst empty() {
        TellFirst x = new TellFirst();
        Checks.fill(x, 0, 0, 4, 5);
        Checks.feed(x, Checks.bytes("person q; person r; "));
        return x;
    }

    /** All that can be seen of an object; it is not used behind that. */
    private static String seen(TellFirst x) {
        StringBuilder text = new StringBuilder();
        text.append(x.top()).append('/').append(x.bottom()).append(" fault ").append(x.fault(0)).append(' ')
            .append(x.fault(1)).append(" people");
        for (int p = 0; p <= x.many(0); p++) {
            for (int what = 0; what < 5; what++) {
                text.append(' ').append(x.person(p, what));
            }
        }
        text.append(" ties");
        for (int t = 0; t <= x.many(1); t++) {
            for (int what = 0; what < 4; what++) {
                text.append(' ').append(x.tie(t, what));
            }
            text.append(' ').append(x.weight(t)).append(' ').append(x.likeliest(t));
        }
        for (int t = 0; t < 4; t++) {
            text.append(" tray ").append(t);
            for (int i = 0; i <= 8; i++) {
                text.append(' ').append(x.read(t, i)).append('(').append(x.status()).append(')');
            }
        }
        text.append(" runs");
        for (int run = 13; run < 16; run++) {
            x.telling(run);
            text.append(' ').append(x.status());
        }
        text.append(" never tried ").append(x.neverTried()).append(" best ").append(x.best(4, 9));
        Checks.feed(x, Checks.bytes("person s; person s; "));
        text.append(" tape ").append(x.net(39)).append(' ').append(x.fault(0)).append(' ').append(x.fault(1))
            .append(' ').append(x.feed(0, 0, 0, 0, 0));
        return text.toString();
    }

    private void refused(String name, int status, Call call) {
        TellFirst x = full();
        String before = seen(full());
        e.outside(x, name, call.on(x), status);
        String behind = seen(x);
        e.outsideIs("what is seen behind " + name + ": " + behind + " instead of " + before,
            before.equals(behind) ? 1 : 0, 1);
    }

    private void refusedTrayCalls() {
        e.sentence(2, "A call with another STATUS than 0 gives NONE, or false, and changes nothing but STATUS");
        TellFirst x = full();
        String before = seen(full());
        e.inside(x, "a call with STATUS 0 changes what it is to", x.write(0, 0, 9));
        e.insideIs("it is seen", before.equals(seen(x)) ? 1 : 0, 0);
        refused("tray(4, 0, 1)", 1, y -> flag(y.tray(4, 0, 1)));
        refused("tray(0, 4, 1)", 1, y -> flag(y.tray(0, 4, 1)));
        refused("tray(0, 0, 41)", 5, y -> flag(y.tray(0, 0, 41)));
        refused("tray(1, 0, 41)", 5, y -> flag(y.tray(1, 0, 41)));
        refused("tray(0, 0, -1)", 6, y -> flag(y.tray(0, 0, -1)));
        refused("write(4, 0, 9)", 1, y -> flag(y.write(4, 0, 9)));
        refused("write(1, 0, 9)", 3, y -> flag(y.write(1, 0, 9)));
        refused("write(0, 8, 9)", 4, y -> flag(y.write(0, 8, 9)));
        refused("read(4, 0)", 1, y -> y.read(4, 0));
        refused("read(1, 0)", 3, y -> y.read(1, 0));
        refused("read(0, 8)", 4, y -> y.read(0, 8));
        refused("pour to 4", 1, y -> flag(y.pour(0, 0, 4, 0, 1)));
        refused("pour to 1", 3, y -> flag(y.pour(0, 0, 1, 0, 1)));
        refused("pour to 2", 11, y -> flag(y.pour(0, 0, 2, 0, 1)));
        refused("pour of -1", 6, y -> flag(y.pour(3, 0, 0, 0, -1)));
        refused("pour of 9", 4, y -> flag(y.pour(3, 0, 0, 0, 9)));
        refused("pour of 8 to place 1", 4, y -> flag(y.pour(3, 0, 0, 1, 8)));
        refused("net(-1)", 5, y -> y.net(-1));
        refused("net(21)", 5, y -> y.net(21));
    }

    private void refusedSetCalls() {
        refused("person(8, 0)", 2, y -> y.person(8, 0));
        refused("tie(2, 0)", 2, y -> y.tie(2, 0));
        refused("refuse(8, true)", 2, y -> flag(y.refuse(8, true)));
        refused("refuse(39, false)", 2, y -> flag(y.refuse(39, false)));
        refused("weight(4)", 2, y -> y.weight(4));
        refused("reached(256, 0)", 2, y -> y.reached(256, 0));
        refused("reached(1, 4)", 2, y -> y.reached(1, 4));
        refused("backWalk(8, 0)", 2, y -> y.backWalk(8, 0));
        refused("backWalk(0, 4)", 2, y -> y.backWalk(0, 4));
        refused("spread(256, 0)", 2, y -> flag(y.spread(256, 0)));
        refused("spread(1, 4)", 2, y -> flag(y.spread(1, 4)));
        refused("adds(256, 0)", 2, y -> flag(y.adds(256, 0)));
        refused("adds(1, 8)", 2, y -> flag(y.adds(1, 8)));
        refused("likeliest(2)", 2, y -> y.likeliest(2));
        refused("telling(15)", 2, y -> y.telling(15));
        refused("meter(256, 1)", 2, y -> y.meter(256, 1));
    }

    private void refusedNumberCalls() {
        refused("many(2)", 5, y -> y.many(2));
        refused("person(0, 5)", 5, y -> y.person(0, 5));
        refused("tie(0, 4)", 5, y -> y.tie(0, 4));
        refused("greedy(0, 1)", 5, y -> y.greedy(0, 1));
        refused("greedy(1, 1000)", 5, y -> y.greedy(1, 1000));
        refused("best(5, 1)", 5, y -> y.best(5, 1));
        refused("best(1, -1)", 5, y -> y.best(1, -1));
        refused("bound(5, 1)", 5, y -> flag(y.bound(5, 1)));
        refused("bound(1, 1000)", 5, y -> flag(y.bound(1, 1000)));
        refused("rounds(3)", 5, y -> y.rounds(3));
        refused("lot(-1)", 5, y -> y.lot(-1));
        refused("lot(10000)", 5, y -> y.lot(10000));
        refused("meter(1, 0)", 5, y -> y.meter(1, 0));
        refused("meter(1, 501)", 5, y -> y.meter(1, 501));
    }

    private void refusedTaleCalls() {
        refused("fight(256, 0, 0, 0)", 2, y -> flag(y.fight(256, 0, 0, 0)));
        refused("fight(1, 256, 0, 0)", 2, y -> flag(y.fight(1, 256, 0, 0)));
        refused("fight(1, 2, 21, 0)", 5, y -> flag(y.fight(1, 2, 21, 0)));
        refused("fight(1, 2, 0, 2)", 5, y -> flag(y.fight(1, 2, 0, 2)));
        refused("answer(256, 0)", 2, y -> y.answer(256, 0));
        refused("answer(1, 21)", 5, y -> y.answer(1, 21));
        refused("latest(256, 0)", 2, y -> y.latest(256, 0));
        refused("latest(1, 8)", 2, y -> y.latest(1, 8));
        refused("latest(1, 0)", 9, y -> y.latest(1, 0));
        refused("stops(256, 0)", 2, y -> y.stops(256, 0));
        refused("stops(1, 4)", 5, y -> y.stops(1, 4));
        refused("lead(256, 0, 0, 0)", 2, y -> y.lead(256, 0, 0, 0));
        refused("lead(1, 4, 0, 0)", 2, y -> y.lead(1, 4, 0, 0));
        refused("lead(1, 0, 8, 0)", 2, y -> y.lead(1, 0, 8, 0));
        refused("lead(1, 0, 0, 2)", 5, y -> y.lead(1, 0, 0, 2));
        refused("lead(1, 0, 0, 0)", 8, y -> y.lead(1, 0, 0, 0));
        refused("lead(1, 0, 1, 1)", 8, y -> y.lead(1, 0, 1, 1));
    }

    private void refusedRunCalls() {
        refused("source(4, 0, 0)", 1, y -> flag(y.source(4, 0, 0)));
        refused("source(0, 0, 8)", 2, y -> flag(y.source(0, 0, 8)));
        refused("source(1, 0, 0)", 3, y -> flag(y.source(1, 0, 0)));
        refused("source(0, 150, 0)", 5, y -> flag(y.source(0, 150, 0)));
        refused("source(2, 0, 0)", 4, y -> flag(y.source(2, 0, 0)));
        refused("source(3, 0, 0)", 5, y -> flag(y.source(3, 0, 0)));
        refused("source(0, 0, 0)", 9, y -> flag(y.source(0, 0, 0)));
        refused("run(4)", 1, y -> y.run(4));
        refused("run(1)", 3, y -> y.run(1));
        refused("run(2)", 4, y -> y.run(2));
        refused("run(3)", 5, y -> y.run(3));
        refused("run(0)", 7, y -> y.run(0));
        refused("likeliest(1)", 8, y -> y.likeliest(1));
        refused("telling(0)", 9, y -> y.telling(0));
        refused("check(1, 0, 4)", 1, y -> y.check(1, 0, 4));
        refused("check(256, 0, 0)", 2, y -> y.check(256, 0, 0));
        refused("check(1, 4, 0)", 2, y -> y.check(1, 4, 0));
        refused("check(1, 0, 1)", 3, y -> y.check(1, 0, 1));
        refused("check(1, 0, 2)", 4, y -> y.check(1, 0, 2));
    }

    private void refusedOfNone() {
        Call[] calls = {y -> y.rounds(0), y -> y.answer(0, 0), y -> y.meter(0, 1)};
        for (Call call : calls) {
            TellFirst x = empty();
            e.outside(x, "with no people", call.on(x), 8);
            e.outsideIs("what is seen behind it", seen(empty()).equals(seen(x)) ? 1 : 0, 1);
        }
    }

    private void refusedNet() {
        e.sentence(10, "(but net() with 10 the tape, and what fault() tells)");
        TellFirst x = full();
        e.insideIs("fault(0) ahead", x.fault(0), 2);
        e.insideIs("fault(1) ahead", x.fault(1), 7);
        e.outside(x, "a net with a fault", x.net(8), 10);
        e.outsideIs("fault(0)", x.fault(0), 2);
        e.outsideIs("fault(1)", x.fault(1), 8);
        e.insideIs("the tape is empty", x.feed(0, 0, 0, 0, 0), 20);
        // The same state by another way: the fault and the tape alone are not as they were.
        TellFirst like = full();
        like.net(8);
        Checks.feed(like, Checks.bytes("person q; person r; "));
        String seen = seen(like);
        String before = seen(full());
        e.insideIs("the net, the trays and the runs stay: " + seen,
            seen.replace("fault 2 8", "fault 2 7").equals(before) ? 1 : 0, 1);
        e.outside(x, "a net() with 5", x.net(21), 5);
        e.insideIs("the tape stays", x.feed(0, 0, 0, 0, 0), 40);
    }
}
