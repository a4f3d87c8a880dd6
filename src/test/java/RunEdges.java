/** Boundary cases of promises 29 to 33: source, run, likeliest, neverTried, telling. */
final class RunEdges {
    private final Edges e;

    RunEdges(Edges edges) {
        e = edges;
    }

    void all() {
        sourceHours();
        sourceNumbers();
        sourceOdds();
        sourceInNone();
        sourceOrder();
        runsSoMany();
        runHours();
        runOrder();
        tried();
        told();
        likeliest();
        neverTried();
        tellingSoMany();
        dealt();
        tellingStatus();
    }

    private void sourceHours() {
        e.sentence(29, "SOURCE: by an hour (0 to 149) it is known of PEOPLE whether they had taken");
        // b takes in hour 3, if a began it and the tie is open.
        TellFirst x = Checks.made("person a;person b late 2;tie a to b odds 8;");
        Checks.fill(x, 0, 2, -1, 1);
        e.insideFraction(x, "a, by hour 3", x.source(0, 3, 0), 1, 3);
        e.insideFraction(x, "b, by hour 3", x.source(0, 3, 1), 2, 3);
        e.outsideFraction(x, "a, by hour 2", x.source(0, 2, 0), 0, 1);
        e.insideFraction(x, "b, by hour 0", x.source(0, 0, 1), 1, 1);
        e.insideFraction(x, "b, by hour 149", x.source(0, 149, 1), 2, 3);
        e.outside(x, "hour -1", x.source(0, -1, 1), 5);
        e.outside(x, "hour 150", x.source(0, 150, 1), 5);
        e.outside(x, "the least hour", x.source(0, Integer.MIN_VALUE, 1), 5);
        e.outside(x, "the greatest hour", x.source(0, Integer.MAX_VALUE, 1), 5);
    }

    private void sourceNumbers() {
        e.sentence(29, "a TRAY: 1, 0, or -1: not seen");
        TellFirst x = Checks.made("person a;person b;");
        long[][] sound = {{1, 0}, {1, -1}, {-1, 0}, {1, 0, 2}, {1, 0, -2}, {1, 0, 1}, {1, 0, 0}};
        for (long[] row : sound) {
            Checks.fill(x, 0, 3, row);
            e.insideFraction(x, row[0] + ", " + row[1], x.source(0, 0, 0), 1, 1);
        }
        long[][] wrong = {{1, 2}, {1, -2}, {2, 0}, {-2, 0}, {1, 1L << 32}, {Long.MIN_VALUE, 0}, {Long.MAX_VALUE, 0}};
        for (long[] row : wrong) {
            Checks.fill(x, 0, 3, row);
            e.outside(x, row[0] + ", " + row[1], x.source(0, 0, 0), 5);
        }
        Checks.fill(x, 0, 0, 257, 256);
        e.insideFraction(x, "257 and 256 cut to 8 bits", x.source(0, 0, 0), 1, 1);
    }

    private void sourceOdds() {
        e.sentence(29, "ODDS of each person that it alone began it in hour 0 (each as likely; by RED alone, hours as "
            + "told), by all LOTS in which what is seen comes out");
        TellFirst x = Checks.made("person a;person b;person c stubborn;tie a to b odds 4 hours 2;tie c to b odds 8;");
        Checks.fill(x, 0, 0, -1, -1, -1);
        for (int p = 0; p < 3; p++) {
            e.insideFraction(x, "nothing is seen, " + p, x.source(0, 149, p), 1, 3);
        }
        Checks.fill(x, 0, 0, -1, 1, -1);
        e.insideFraction(x, "b has it, a", x.source(0, 2, 0), 4, 28);
        e.insideFraction(x, "b has it, b", x.source(0, 2, 1), 16, 28);
        e.insideFraction(x, "b has it, c who says no", x.source(0, 2, 2), 8, 28);
        e.outsideFraction(x, "b had it an hour ahead, a", x.source(0, 1, 0), 0, 1);
        e.insideFraction(x, "b had it an hour ahead, c", x.source(0, 1, 2), 8, 24);
        Checks.fill(x, 0, 0, 1, 0, 0);
        e.insideFraction(x, "a alone", x.source(0, 0, 0), 1, 1);
        e.outsideFraction(x, "not b", x.source(0, 0, 1), 0, 1);
        Checks.fill(x, 0, 0, 1, 0, 1);
        e.outside(x, "two began it in no lot", x.source(0, 0, 0), 9);
    }

    private void sourceInNone() {
        e.sentence(29, "a FRACTION (none, if it comes out in none)");
        TellFirst x = Checks.made("person a;person b;tie a to b odds 15;");
        Checks.fill(x, 0, 0, 1, 0);
        e.insideFraction(x, "a lot of 16", x.source(0, 149, 0), 1, 1);
        e.insideFraction(x, "the other", x.source(0, 149, 1), 0, 1);
        x = Checks.made("person a;person b;tie a to b odds 16;");
        e.outside(x, "the tray is missing", x.source(0, 149, 0), 3);
        Checks.fill(x, 0, 0, 1, 0);
        x.spread(3, 0);
        e.outside(x, "a lot of weight 0", x.source(0, 149, 0), 9);
        e.outside(x, "the other", x.source(0, 149, 1), 9);
        e.outsideIs("no fraction is told", x.top(), 2);
        Checks.fill(x, 0, 0, 0, 0);
        e.outside(x, "none had it", x.source(0, 0, 0), 9);
    }

    private void sourceOrder() {
        e.sentence(29, "(1; 2; 3; 5: the hour; 4; 5: a number; 9: it comes out in none; in this order)");
        TellFirst x = Checks.made("person a;person b;tie a to b odds 8;");
        e.outside(x, "1 ahead of 2", x.source(4, 150, 2), 1);
        e.outside(x, "1 below", x.source(-1, 150, 2), 1);
        e.outside(x, "2 ahead of 3", x.source(0, 150, 2), 2);
        e.outside(x, "2 below", x.source(0, 150, -1), 2);
        e.outside(x, "3 ahead of 5", x.source(0, 150, 1), 3);
        Checks.fill(x, 0, 0, 7);
        e.outside(x, "the hour ahead of 4", x.source(0, 150, 1), 5);
        e.outside(x, "4 ahead of a number", x.source(0, 149, 1), 4);
        Checks.fill(x, 0, 0, 0, 7);
        e.outside(x, "a number ahead of 9", x.source(0, 149, 1), 5);
        Checks.fill(x, 0, 0, 0, 0);
        e.outside(x, "9", x.source(0, 149, 1), 9);
        Checks.fill(x, 0, 0, 0, 1);
        e.insideFraction(x, "none of them", x.source(0, 149, 1), 1, 1);
        TellFirst none = new TellFirst();
        none.tray(3, 0, 0);
        e.outside(none, "no people: 2", none.source(3, 0, 0), 2);
    }

    private void runsSoMany() {
        e.sentence(30, "RUNS, at most 15");
        TellFirst x = Checks.made("person a;");
        Checks.fill(x, 0, 0, 3);
        for (int run = 0; run < 15; run++) {
            e.inside(x, "run " + run, x.run(0), run);
        }
        e.outside(x, "a 16th", x.run(0), 7);
        e.outside(x, "and again", x.run(0), 7);
        e.inside(x, "the last of 15", x.telling(14), 0);
        e.outside(x, "no run 15", x.telling(15), 2);
    }

    private void runHours() {
        e.sentence(30, "hours in which PEOPLE took (0 to 149), or NONE");
        for (long hour : new long[] {0, 149, -1}) {
            TellFirst x = Checks.made("person a;person b;");
            Checks.fill(x, 0, 3, hour, 7);
            e.inside(x, "the first " + hour, x.run(0), 0);
            Checks.fill(x, 0, 3, 7, hour);
            e.inside(x, "the last " + hour, x.run(0), 1);
        }
        for (long hour : new long[] {150, -2, 1L << 32, Long.MIN_VALUE, Long.MAX_VALUE}) {
            TellFirst x = Checks.made("person a;person b;");
            Checks.fill(x, 0, 3, hour, 7);
            e.outside(x, "the first " + hour, x.run(0), 5);
            Checks.fill(x, 0, 3, 7, hour);
            e.outside(x, "the last " + hour, x.run(0), 5);
            Checks.fill(x, 0, 3, 7, 7, hour);
            e.inside(x, "one behind the people's " + hour, x.run(0), 0);
        }
    }

    private void runOrder() {
        e.sentence(30, "A RUN, hours in a TRAY: its number (1; 3; 4; 5; 7; in this order)");
        TellFirst x = Checks.made("person a;person b;");
        Checks.fill(x, 3, 1, 7, 7);
        for (int run = 0; run < 15; run++) {
            e.inside(x, "run " + run, x.run(3), run);
        }
        e.outside(x, "1", x.run(4), 1);
        e.outside(x, "1 below", x.run(-1), 1);
        e.outside(x, "3 ahead of 7", x.run(0), 3);
        Checks.fill(x, 0, 1, 999);
        e.outside(x, "4 ahead of 5", x.run(0), 4);
        Checks.fill(x, 0, 1, 7, 999);
        e.outside(x, "5 ahead of 7", x.run(0), 5);
        e.outside(x, "7", x.run(3), 7);
        TellFirst none = new TellFirst();
        none.tray(0, 0, 0);
        e.inside(none, "a run of no people", none.run(0), 0);
    }

    /** A net with one run: a tells b in 3 hours, and b is 2 late. */
    private static TellFirst ran(long a, long b) {
        TellFirst x = Checks.made("person a;person b late 2;tie a to b odds 8 hours 3;");
        Checks.fill(x, 0, 3, a, b);
        x.run(0);
        return x;
    }

    private void tried() {
        e.sentence(31, "In a RUN a TIE is TRIED, if the one it is from took, and the other one did not take ahead of "
            + "HOURS later");
        for (long[] row : new long[][] {{2, 5}, {2, 6}, {2, -1}, {0, -1}, {149, -1}, {0, 3}}) {
            TellFirst x = ran(row[0], row[1]);
            e.inside(x, "tried in " + row[0] + ", " + row[1], x.neverTried(), 0);
            e.inside(x, "in vain in " + row[0] + ", " + row[1], x.likeliest(0), 0);
        }
        for (long[] row : new long[][] {{2, 4}, {2, 2}, {2, 0}, {-1, 5}, {-1, -1}, {149, 149}, {0, 2}}) {
            TellFirst x = ran(row[0], row[1]);
            e.outsideIs("not tried in " + row[0] + ", " + row[1], x.neverTried(), 1);
            e.outside(x, "no odds in " + row[0] + ", " + row[1], x.likeliest(0), 8);
        }
    }

    private void told() {
        e.sentence(31, "it TOLD, if the other one took just HOURS and LATE (its own) later");
        for (long[] row : new long[][] {{2, 7}, {0, 5}, {144, 149}}) {
            TellFirst x = ran(row[0], row[1]);
            e.inside(x, "told in " + row[0] + ", " + row[1], x.likeliest(0), 16);
            e.inside(x, "one told in " + row[0] + ", " + row[1], x.telling(0), 1);
        }
        for (long[] row : new long[][] {{2, 6}, {2, 8}, {2, 5}, {2, -1}, {-1, 4}, {145, 149}, {7, 2}}) {
            TellFirst x = ran(row[0], row[1]);
            e.outsideIs("not told in " + row[0] + ", " + row[1], x.telling(0), 0);
        }
        TellFirst x = Checks.made("person a late 5;person b;tie a to b odds 8;");
        Checks.fill(x, 0, 0, 1, 2);
        x.run(0);
        e.inside(x, "how late the one it is from is does not count", x.telling(0), 1);
    }

    private void likeliest() {
        e.sentence(31, "of 0 to 16 those with which TRIED ones that TOLD, and those that did not, are likeliest; of "
            + "several the least");
        // So many told, so many did not. No two odds are alike the likeliest with 1 to 15 runs; the nearest are
        // these: 5 by 16 against 6 (605 to 600), and 11 against 10.
        int[][] runs = {{1, 0, 16}, {15, 0, 16}, {1, 1, 8}, {7, 7, 8}, {1, 14, 1}, {14, 1, 15}, {1, 2, 5}, {2, 1, 11},
            {7, 8, 7}, {8, 7, 9}};
        for (int[] row : runs) {
            TellFirst x = told(row[0], row[1]);
            e.inside(x, row[0] + " told, " + row[1] + " did not", x.likeliest(0), row[2]);
        }
        TellFirst x = told(0, 1);
        e.outsideIs("none told", x.likeliest(0), 0);
        x = told(0, 15);
        e.outsideIs("none of 15 told", x.likeliest(0), 0);
        e.sentence(31, "LIKELIEST odds of a TIE (2; 8: never TRIED)");
        x = Checks.made("person a;person b;tie a to b odds 8 back;");
        e.outside(x, "no runs", x.likeliest(1), 8);
        Checks.fill(x, 0, 0, 0, 1);
        x.run(0);
        e.inside(x, "tie 0", x.likeliest(0), 16);
        e.outside(x, "tie 1 was not tried", x.likeliest(1), 8);
        e.outside(x, "tie 2", x.likeliest(2), 2);
        e.outside(x, "tie -1", x.likeliest(-1), 2);
        TellFirst none = new TellFirst();
        e.outside(none, "no ties: 2 ahead of 8", none.likeliest(0), 2);
    }

    private static TellFirst told(int did, int didNot) {
        TellFirst x = Checks.made("person a;person b;tie a to b odds 8;");
        for (int i = 0; i < did + didNot; i++) {
            Checks.fill(x, 0, 1, i, i < did ? i + 1 : -1);
            x.run(0);
        }
        return x;
    }

    private void neverTried() {
        e.sentence(32, "NEVER TRIED: the set of TIES that no RUN tried");
        TellFirst x = Checks.made(Edges.people(12) + Edges.star(10, 1));
        e.outsideIs("no runs: all", x.neverTried(), 1023);
        Checks.fill(x, 0, 1, -1, 1, 1, 1, 1, 1, 1, 1, 1, 1, 1, 1);
        x.run(0);
        e.outsideIs("a did not take: all", x.neverTried(), 1023);
        Checks.fill(x, 0, 1, 5, 5, 5, 5, 5, 5, 5, 5, 5, 5, 6, 5);
        x.run(0);
        e.inside(x, "the last one was", x.neverTried(), 511);
        Checks.fill(x, 0, 1, 5, 6, -1, 7, 6, 6, 6, 6, 6, 6, 5, 5);
        x.run(0);
        e.inside(x, "all were, by one run or another", x.neverTried(), 0);
        e.sentence(32, "NEVER TRIED");
        TellFirst none = new TellFirst();
        none.many(2);
        e.inside(none, "no ties", none.neverTried(), 0);
        x.net(0);
        e.inside(x, "a net of none", x.neverTried(), 0);
        Checks.net(x, "person a;person b;tie a to b odds 1;");
        e.outsideIs("a new net", x.neverTried(), 1);
    }

    private void tellingSoMany() {
        e.sentence(33, "TELLING: in a RUN so many TIES TOLD");
        TellFirst x = Checks.made("person a;person b;person c;tie a to b odds 8;tie b to c odds 8;");
        long[][] rows = {{0, 1, 2}, {0, 1, 3}, {0, 2, 4}, {-1, -1, -1}};
        int[] told = {2, 1, 0, 0};
        for (int i = 0; i < rows.length; i++) {
            Checks.fill(x, 0, 0, rows[i]);
            x.run(0);
            if (told[i] > 0) {
                e.inside(x, "run " + i, x.telling(i), told[i]);
            } else {
                e.outsideFraction(x, "run " + i + ": none or more in all ways", x.telling(i), 0, 1, 1);
            }
        }
        e.sentence(33, "in how many ways as many TIES or more TOLD, by all ways");
        e.insideFraction(x, "two of two", x.telling(0), 2, 1, 6);
        // 0, 1, 3: a tie tells where 0 and 1 stand behind one another.
        e.insideFraction(x, "one or more of two", x.telling(1), 1, 2, 6);
        e.outsideFraction(x, "none or more", x.telling(2), 0, 1, 1);
        Checks.fill(x, 0, 0, 2, 0, 1);
        x.run(0);
        // 0, 1, 2 tells two; 2, 0, 1 and 1, 2, 0 tell one: those with more count as well.
        e.insideFraction(x, "one, or two", x.telling(4), 1, 3, 6);
    }

    private void dealt() {
        e.sentence(33, "DEALT are its hours among all of each VALLEY anew, in all ways (persons are unlike, so are "
            + "hours");
        TellFirst x = Checks.made("person a;person b;person c;tie a to b odds 8;");
        Checks.fill(x, 0, 0, 3, 4, 3);
        x.run(0);
        e.insideFraction(x, "like hours are unlike", x.telling(0), 1, 2, 6);
        Checks.fill(x, 0, 0, 3, 4, -1);
        x.run(0);
        e.insideFraction(x, "a NONE is dealt, too", x.telling(1), 1, 1, 6);
        x = Checks.made("person a in 1;person b in 1;person c in 2;tie a to b odds 8;");
        Checks.fill(x, 0, 0, 3, 4, 3);
        x.run(0);
        e.outsideFraction(x, "c's hour stays in its valley", x.telling(0), 1, 1, 2);
        x = Checks.made("person a in 1;person b in 3;person c in 2;tie a to b odds 8;");
        Checks.fill(x, 0, 0, 3, 4, 3);
        x.run(0);
        e.outsideFraction(x, "each in its own", x.telling(0), 1, 1, 1);
        e.sentence(33, "of all VALLEYS together at most 5,040 ways, else it is not done");
        dealtAmong(true, 7);
        dealtAmong(false, 8);
        dealtAmong(true, 5, 3, 3, 1);
        dealtAmong(false, 5, 4, 2);
        dealtAmong(false, 7, 2);
        dealtAmong(false, 12);
        dealtAmong(true, 3, 3, 3, 3);
        dealtAmong(true, 7, 1, 1, 1);
    }

    private void dealtAmong(boolean can, int... byValley) {
        StringBuilder text = new StringBuilder();
        char name = 'a';
        long ways = 1;
        for (int v = 0; v < byValley.length; v++) {
            for (int i = 1; i <= byValley[v]; i++) {
                text.append("person ").append(name++).append(" in ").append(v).append(";");
                ways *= i;
            }
        }
        TellFirst x = Checks.made(text + "tie a to b odds 1;");
        long[] row = new long[name - 'a'];
        row[1] = 1;
        Checks.fill(x, 0, 0, row);
        x.run(0);
        if (can) {
            // b's 1 comes to b in one of so many places, whatever stands at a.
            e.insideFraction(x, ways + " ways", x.telling(0), 1, 1, byValley[0]);
        } else {
            e.outside(x, ways + " ways", x.telling(0), 9);
            e.outsideIs("no fraction is told", x.bottom(), 1);
        }
    }

    private void tellingStatus() {
        e.sentence(33, "TELLING of a RUN: how many TIES TOLD; the FRACTION is that of all ways DEALT (2; 9: more than "
            + "5,040 ways)");
        TellFirst x = Checks.made(Edges.people(7));
        e.outside(x, "no runs", x.telling(0), 2);
        Checks.fill(x, 0, 0, 0, 0, 0, 0, 0, 0, 0);
        x.run(0);
        e.insideFraction(x, "run 0", x.telling(0), 0, 1, 1);
        e.outside(x, "run 1", x.telling(1), 2);
        e.outside(x, "run -1", x.telling(-1), 2);
        x = Checks.made(Edges.people(8));
        e.outside(x, "2 ahead of 9", x.telling(0), 2);
        Checks.fill(x, 0, 0, 0, 0, 0, 0, 0, 0, 0, 0);
        x.run(0);
        e.outside(x, "9", x.telling(0), 9);
        e.outside(x, "2 ahead of 9", x.telling(1), 2);
    }
}
