/** Boundary cases of promises 1 to 8: a new object, status, the fraction, trays. */
final class TrayEdges {
    private final Edges e;

    TrayEdges(Edges edges) {
        e = edges;
    }

    void all() {
        newObject();
        lastCall();
        status();
        fraction();
        trays();
        sorts();
        lengths();
        places();
        noneOrLess();
        pourOrder();
        pourStretches();
        pourInTheSame();
    }

    private void newObject() {
        e.sentence(1, "TRAYS are MISSING");
        TellFirst x = new TellFirst();
        for (int t = 0; t < 4; t++) {
            e.outside(x, "read of tray " + t, x.read(t, 0), 3);
            e.outside(x, "write to tray " + t, x.write(t, 0, 1), 3);
            x.tray(t, 0, 1);
            e.inside(x, "read of tray " + t + " that was made", x.read(t, 0), 0);
        }
        e.sentence(1, "no NET (no PEOPLE, TIES)");
        x = new TellFirst();
        e.inside(x, "many(0)", x.many(0), 0);
        e.inside(x, "many(1)", x.many(1), 0);
        e.inside(x, "reached(0, 0)", x.reached(0, 0), 0);
        e.inside(x, "weight(0)", x.weight(0), 1);
        e.outside(x, "person(0, 0)", x.person(0, 0), 2);
        e.outside(x, "tie(0, 0)", x.tie(0, 0), 2);
        e.outside(x, "reached(1, 0)", x.reached(1, 0), 2);
        e.outside(x, "weight(1)", x.weight(1), 2);
        e.sentence(1, "no RUNS");
        e.outside(x, "telling(0)", x.telling(0), 2);
        x.tray(0, 0, 0);
        e.inside(x, "the first run", x.run(0), 0);
        e.inside(x, "telling(0) then", x.telling(0), 0);
        e.sentence(1, "an empty tape");
        x = new TellFirst();
        e.outside(x, "net(1)", x.net(1), 5);
        e.inside(x, "net(0)", x.net(0), 0);
        e.insideIs("the first feed()", x.feed(0, 0, 0, 0, 0), 20);
        e.sentence(1, "STATUS 0, the FRACTION 0 by 1");
        x = Checks.made("");
        e.insideIs("top()", new TellFirst().top(), 0);
        e.insideIs("bottom()", new TellFirst().bottom(), 1);
        e.insideIs("status()", new TellFirst().status(), 0);
        x.many(2);
        e.outsideIs("status() behind a call that was refused", x.status(), 5);
    }

    private void lastCall() {
        e.sentence(1, "An object is used for at most 512 calls after it has been made");
        TellFirst x = new TellFirst();
        for (int call = 1; call < 512; call++) {
            x.many(call % 2);
        }
        e.insideIs("the 512th call", x.many(0), 0);
        boolean ended = false;
        for (int call = 513; call <= 2000; call++) {
            x.many(2);
            x.tray(0, 0, 40);
            ended = call == 2000;
        }
        // What it answers is free; it must end without a throw (LANGUAGE.md, rule 7).
        e.outsideIs("calls behind it end", ended ? 1 : 0, 1);
    }

    private void status() {
        e.sentence(2, "The STATUS of the latest call that has one");
        TellFirst x = new TellFirst();
        x.many(2);
        e.outsideIs("behind a call that was refused", x.status(), 5);
        x.many(1);
        e.insideIs("behind the next", x.status(), 0);
        e.insideIs("once more", x.status(), 0);
        e.sentence(2, "status(), fault(), feed(), top(), bottom() have none");
        x.many(2);
        x.status();
        x.fault(2);
        x.top();
        x.bottom();
        for (int i = 0; i < 31; i++) {
            x.feed(0, 0, 0, 0, 0);
        }
        e.insideIs("it stays as it was", x.status(), 5);
        x.neverTried();
        e.outsideIs("neverTried() has one", x.status(), 0);
    }

    private void fraction() {
        e.sentence(3, "The top of the FRACTION told latest");
        TellFirst x = Checks.made(Edges.people(11) + Edges.chain(10, "1"));
        e.insideFraction(x, "ten ties of odds 1", x.spread(1, 0), ((1L << 44) - 1) / 15, 1L << 40);
        e.outside(x, "a call that is refused tells none", x.spread(1 << 11, 0), 2);
        e.outsideIs("the top stays", x.top(), ((1L << 44) - 1) / 15);
        e.outsideIs("latest() tells none", x.latest(0, 0), 20);
        e.outsideIs("the top stays", x.top(), ((1L << 44) - 1) / 15);
        e.sentence(4, "Its bottom, above 0");
        e.insideIs("the greatest bottom", x.bottom(), 1L << 40);
        x.spread(0, 0);
        e.outsideIs("the bottom of 0 is not 0", x.bottom(), 1);
        e.sentence(4, "without a common divisor, the bottom above 0; 0 is 0 by 1");
        x = Checks.made("person a;person b;tie a to b odds 8;");
        e.insideFraction(x, "24 by 16", x.spread(1, 0), 3, 2);
        e.insideIs("its top", x.top(), 3);
        e.insideIs("its bottom", x.bottom(), 2);
        x.spread(3, 0);
        e.insideIs("32 by 16, the top", x.top(), 2);
        e.insideIs("32 by 16, the bottom", x.bottom(), 1);
        x.spread(0, 0);
        e.outsideIs("0 by 16, the top", x.top(), 0);
        e.outsideIs("0 by 16, the bottom", x.bottom(), 1);
    }

    private void trays() {
        e.sentence(5, "TRAYS, 0 to 3, are MISSING at first");
        TellFirst x = new TellFirst();
        e.outside(x, "tray 3 ahead", x.read(3, 0), 3);
        e.inside(x, "tray 0", x.tray(0, 0, 1));
        e.inside(x, "tray 3", x.tray(3, 0, 1));
        e.inside(x, "tray 3 then", x.read(3, 0), 0);
        e.outside(x, "tray -1", x.tray(-1, 0, 1), 1);
        e.outside(x, "tray 4", x.tray(4, 0, 1), 1);
        e.outside(x, "the least", x.tray(Integer.MIN_VALUE, 0, 1), 1);
        e.outside(x, "the greatest", x.tray(Integer.MAX_VALUE, 0, 1), 1);
    }

    private void sorts() {
        e.sentence(6, "rows of numbers of 8 bits (sort 0), 16 (1), 32 (2) or 64 (3), with sign; "
            + "what is written is cut to these");
        TellFirst x = new TellFirst();
        for (int sort = 0; sort < 4; sort++) {
            e.inside(x, "sort " + sort, x.tray(sort, sort, 2));
            long greatest = Long.MAX_VALUE >> 64 - (8 << sort);
            long least = -greatest - 1;
            e.inside(x, "the greatest of sort " + sort, written(x, sort, greatest), greatest);
            e.inside(x, "the least of sort " + sort, written(x, sort, least), least);
            e.inside(x, "-1 of sort " + sort, written(x, sort, -1), -1);
            // Of 64 bits Java's own wrap-around makes these two.
            e.outsideIs("one above of sort " + sort, written(x, sort, greatest + 1), least);
            e.outsideIs("one below of sort " + sort, written(x, sort, least - 1), greatest);
            e.outsideIs("its neighbour stays", x.read(sort, 0), 0);
        }
        e.outsideIs("all bits but the lowest eight", written(x, 0, Long.MAX_VALUE - 255 + 7), 7);
        e.outside(x, "sort -1", x.tray(0, -1, 1), 1);
        e.outside(x, "sort 4", x.tray(0, 4, 1), 1);
    }

    private static long written(TellFirst x, int tray, long v) {
        x.write(tray, 1, v);
        return x.read(tray, 1);
    }

    private void lengths() {
        e.sentence(5, "A TRAY is a row of so many numbers (at most 40; 5), all 0 (1; 5; 6)");
        TellFirst x = new TellFirst();
        e.inside(x, "40 numbers", x.tray(0, 3, 40));
        e.inside(x, "the last of 40", x.read(0, 39), 0);
        e.outside(x, "41 numbers", x.tray(0, 3, 41), 5);
        e.outside(x, "very many", x.tray(0, 3, Integer.MAX_VALUE), 5);
        e.inside(x, "no numbers", x.tray(1, 3, 0));
        e.outside(x, "-1 numbers", x.tray(1, 3, -1), 6);
        e.outside(x, "very few", x.tray(1, 3, Integer.MIN_VALUE), 6);
        e.outside(x, "1 ahead of 5", x.tray(4, 0, 41), 1);
        e.outside(x, "1 ahead of 6", x.tray(0, 4, -1), 1);
        x.write(0, 39, 5);
        e.outside(x, "41 once more", x.tray(0, 3, 41), 5);
        e.outsideIs("the row stays", x.read(0, 39), 5);
        e.inside(x, "40 anew", x.tray(0, 3, 40));
        e.inside(x, "all 0", x.read(0, 39), 0);
        x.write(0, 39, 5);
        x.tray(0, 3, 39);
        e.outside(x, "of 39 there is no 40th", x.read(0, 39), 4);
        x.tray(0, 3, 40);
        e.inside(x, "all 0 though it was longer ahead", x.read(0, 39), 0);
    }

    private void places() {
        e.sentence(6, "A number comes to a place of a TRAY (1; 3; 4)");
        TellFirst x = new TellFirst();
        e.outside(x, "tray -1, place -1", x.write(-1, -1, 1), 1);
        e.outside(x, "tray 4, place 9", x.write(4, 9, 1), 1);
        e.outside(x, "missing, place -1", x.write(0, -1, 1), 3);
        x.tray(0, 2, 3);
        e.inside(x, "place 0", x.write(0, 0, 7));
        e.inside(x, "place 2", x.write(0, 2, 9));
        e.outside(x, "place -1", x.write(0, -1, 1), 4);
        e.outside(x, "place 3", x.write(0, 3, 1), 4);
        e.outside(x, "the least place", x.write(0, Integer.MIN_VALUE, 1), 4);
        e.outside(x, "the greatest place", x.write(0, Integer.MAX_VALUE, 1), 4);
        e.insideIs("what came to place 0", x.read(0, 0), 7);
        e.insideIs("nothing came to place 1", x.read(0, 1), 0);
        e.insideIs("what came to place 2", x.read(0, 2), 9);
        x.tray(3, 2, 0);
        e.outside(x, "place 0 of a tray of none", x.write(3, 0, 1), 4);
    }

    private void noneOrLess() {
        e.sentence(7, "The number in a place of a TRAY; STATUS tells NONE from -1 (1; 3; 4)");
        TellFirst x = new TellFirst();
        e.outside(x, "tray -1, place -1", x.read(-1, -1), 1);
        e.outside(x, "tray 4, place 9", x.read(4, 9), 1);
        e.outside(x, "missing, place -1", x.read(3, -1), 3);
        Checks.fill(x, 3, 0, -1, 8, -1);
        e.inside(x, "-1 in place 0", x.read(3, 0), -1);
        e.inside(x, "-1 in place 2", x.read(3, 2), -1);
        e.outside(x, "place -1", x.read(3, -1), 4);
        e.outside(x, "place 3", x.read(3, 3), 4);
        e.outside(x, "the least place", x.read(3, Integer.MIN_VALUE), 4);
        e.outside(x, "the greatest place", x.read(3, Integer.MAX_VALUE), 4);
        x.tray(2, 0, 0);
        e.outside(x, "place 0 of a tray of none", x.read(2, 0), 4);
    }

    private void pourOrder() {
        e.sentence(8, "1, 3 (either), 11, 6, 4, asked in this order");
        TellFirst x = new TellFirst();
        e.outside(x, "1 from, ahead of 3", x.pour(-1, 0, 0, 0, -1), 1);
        e.outside(x, "1 to, ahead of 3", x.pour(0, 0, 4, 0, -1), 1);
        Checks.fill(x, 0, 2, 1, 2, 3);
        e.outside(x, "3 to, ahead of 6", x.pour(0, 9, 1, 9, -1), 3);
        e.outside(x, "3 from, ahead of 6", x.pour(1, 9, 0, 9, -1), 3);
        x.tray(1, 3, 3);
        e.outside(x, "11 ahead of 6", x.pour(0, 9, 1, 9, -1), 11);
        e.outside(x, "11 ahead of 4", x.pour(0, 9, 1, 9, 1), 11);
        e.outside(x, "11 of none", x.pour(0, 0, 1, 0, 0), 11);
        x.tray(1, 2, 3);
        e.outside(x, "6 ahead of 4", x.pour(0, 9, 1, -9, -1), 6);
        e.outside(x, "6 alone", x.pour(0, 0, 1, 0, -1), 6);
        e.inside(x, "0 is not below 0", x.pour(0, 0, 1, 0, 0));
        e.outside(x, "4 of the first", x.pour(0, 3, 1, 0, 1), 4);
        e.outside(x, "4 of the second", x.pour(0, 0, 1, 3, 1), 4);
        e.inside(x, "none of them", x.pour(0, 2, 1, 2, 1));
    }

    private void pourStretches() {
        e.sentence(8, "So many numbers from place i on of a TRAY come to place j on of another one");
        TellFirst x = new TellFirst();
        Checks.fill(x, 0, 1, 1, 2, 3, 4);
        x.tray(1, 1, 3);
        e.outside(x, "one more than the second has", x.pour(0, 0, 1, 0, 4), 4);
        e.outside(x, "one more than the first has", x.pour(0, 2, 1, 0, 3), 4);
        e.outside(x, "i -1", x.pour(0, -1, 1, 0, 1), 4);
        e.outside(x, "j -1", x.pour(0, 0, 1, -1, 1), 4);
        e.outside(x, "very many", x.pour(0, 1, 1, 1, Integer.MAX_VALUE), 4);
        e.outside(x, "very far", x.pour(0, Integer.MAX_VALUE, 1, Integer.MAX_VALUE, Integer.MAX_VALUE), 4);
        e.outside(x, "the least place", x.pour(0, Integer.MIN_VALUE, 1, 0, 1), 4);
        row(x, 1, 0, 0, 0);
        e.inside(x, "all that the second holds", x.pour(0, 1, 1, 0, 3));
        row(x, 1, 2, 3, 4);
        row(x, 0, 1, 2, 3, 4);
        e.inside(x, "the last alone", x.pour(0, 0, 1, 2, 1));
        row(x, 1, 2, 3, 1);
        e.inside(x, "none, at both ends", x.pour(0, 4, 1, 3, 0));
        e.outside(x, "none, one further in the first", x.pour(0, 5, 1, 3, 0), 4);
        e.outside(x, "none, one further in the second", x.pour(0, 4, 1, 4, 0), 4);
        row(x, 1, 2, 3, 1);
    }

    private void pourInTheSame() {
        e.sentence(8, "or the same, as they were");
        TellFirst x = new TellFirst();
        Checks.fill(x, 0, 3, 1, 2, 3, Long.MIN_VALUE);
        e.inside(x, "one up", x.pour(0, 0, 0, 1, 3));
        row(x, 0, 1, 1, 2, 3);
        e.inside(x, "one down", x.pour(0, 1, 0, 0, 3));
        row(x, 0, 1, 2, 3, 3);
        e.inside(x, "to where they are", x.pour(0, 0, 0, 0, 4));
        row(x, 0, 1, 2, 3, 3);
        e.outside(x, "one too far up", x.pour(0, 0, 0, 1, 4), 4);
        e.outside(x, "one too far down", x.pour(0, 1, 0, 0, 4), 4);
        row(x, 0, 1, 2, 3, 3);
    }

    private void row(TellFirst x, int tray, long... want) {
        for (int i = 0; i < want.length; i++) {
            e.inside(x, "place " + i, x.read(tray, i), want[i]);
        }
    }
}
