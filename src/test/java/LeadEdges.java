/** Boundary cases of promises 34 to 37: lead, check, lot, meter. */
final class LeadEdges {
    private final Edges e;

    LeadEdges(Edges edges) {
        e = edges;
    }

    void all() {
        movers();
        leadStatus();
        checks();
        checkStatus();
        draws();
        drawsOfAll();
        meterRests();
        meterStatus();
    }

    private static TellFirst fourth(int needs, int hours) {
        return Checks.made("person a;person b;person c;person d late 2 needs " + needs + ";tie c to d odds 8 hours "
            + hours + ";tie b to d odds 8 hours 3;tie a to d odds 8 hours 2;");
    }

    private void movers() {
        e.sentence(34, "of those that told it by the hour in which it made up its mind the one that told it last, of "
            + "several the lesser");
        TellFirst x = fourth(2, 4);
        e.inside(x, "a and b tell by hour 3, b last", x.lead(7, 7, 3, 0), 1);
        e.outsideIs("c, an hour behind its mind", x.lead(7, 7, 3, 1), 5);
        x = fourth(2, 3);
        e.inside(x, "c tells in hour 3, too: the lesser", x.lead(7, 7, 3, 0), 0);
        x = fourth(3, 4);
        e.inside(x, "three needed: c told last", x.lead(7, 7, 3, 0), 0);
        e.outside(x, "three needed, two told", x.lead(7, 6, 3, 0), 8);
        x = fourth(1, 4);
        e.inside(x, "one needed: a was first", x.lead(7, 7, 3, 0), 2);
        e.outsideIs("a's tie is not open: b", x.lead(7, 3, 3, 0), 1);
        e.outsideIs("a is no seed: b", x.lead(6, 7, 3, 0), 1);
        x = fourth(1, 3);
        e.inside(x, "b, as c's tie is not open", x.lead(7, 2, 3, 0), 1);
        e.inside(x, "b, as c did not take", x.lead(2, 7, 3, 0), 1);
        TellFirst two = Checks.made("person a;person b;person c;tie a to b odds 8;tie a to c odds 8;");
        e.inside(two, "not the tie that told another one", two.lead(1, 3, 2, 0), 1);
        x = fourth(1, 4);
        e.sentence(34, "by RED SEEDS alone: the TIE by which a person was moved");
        e.inside(x, "one seed", x.lead(4, 7, 3, 0), 0);
        e.outside(x, "no seeds", x.lead(0, 7, 3, 0), 8);
        e.sentence(34, "the hour in which it took");
        e.inside(x, "2 and 2 late", x.lead(1, 7, 3, 1), 4);
        e.inside(x, "4 and 2 late", x.lead(4, 7, 3, 1), 6);
        e.inside(x, "a seed, late or not", x.lead(8, 7, 3, 1), 0);
        e.outside(x, "it did not", x.lead(0, 7, 3, 1), 8);
    }

    private void leadStatus() {
        e.sentence(34, "LEAD of a person, what 0: the TIE, 1: the hour in which it took (2; 5; 8: it did not take; for "
            + "0: it is a SEED)");
        TellFirst x = Checks.made("person a;person b;tie a to b odds 8;");
        e.inside(x, "what 0", x.lead(1, 1, 1, 0), 0);
        e.inside(x, "what 1", x.lead(1, 1, 1, 1), 1);
        e.outside(x, "what -1", x.lead(1, 1, 1, -1), 5);
        e.outside(x, "what 2", x.lead(1, 1, 1, 2), 5);
        e.outside(x, "person 2", x.lead(1, 1, 2, 0), 2);
        e.outside(x, "person -1", x.lead(1, 1, -1, 0), 2);
        e.outside(x, "seeds 4", x.lead(4, 1, 1, 0), 2);
        e.outside(x, "seeds -1", x.lead(-1, 1, 1, 0), 2);
        e.outside(x, "lot 2", x.lead(1, 2, 1, 0), 2);
        e.outside(x, "lot -1", x.lead(1, -1, 1, 0), 2);
        e.outside(x, "2 ahead of 5", x.lead(1, 1, 2, 2), 2);
        e.outside(x, "5 ahead of 8", x.lead(1, 0, 1, 2), 5);
        e.outside(x, "it did not take, its tie", x.lead(1, 0, 1, 0), 8);
        e.outside(x, "it did not take, its hour", x.lead(1, 0, 1, 1), 8);
        e.outside(x, "a seed's tie", x.lead(1, 1, 0, 0), 8);
        e.inside(x, "a seed's hour", x.lead(1, 1, 0, 1), 0);
        e.outside(x, "the tie of a seed that was told", x.lead(3, 1, 1, 0), 8);
        x.refuse(1, true);
        e.outside(x, "one who says no", x.lead(1, 1, 1, 1), 8);
        e.inside(x, "one who says no, but is a seed", x.lead(2, 1, 1, 1), 0);
    }

    private void checks() {
        e.sentence(35, "CHECK: hours told in a TRAY are those in which PEOPLE take (NONE: -1) by RED SEEDS in a LOT; "
            + "else the first who does not");
        TellFirst x = Checks.made("person a;person b late 2;person c;tie a to b odds 8 hours 3;tie b to c odds 8;");
        Checks.fill(x, 0, 2, 0, 5, 6);
        e.inside(x, "all do", x.check(1, 3, 0), -1);
        for (long hour : new long[] {5, 7, -1, -2, 150}) {
            Checks.fill(x, 0, 2, 0, 5, hour);
            e.outsideIs("c does not in " + hour, x.check(1, 3, 0), 2);
        }
        Checks.fill(x, 0, 2, 0, 4, 5);
        e.outsideIs("b and c don't", x.check(1, 3, 0), 1);
        Checks.fill(x, 0, 2, 1, 6, 7);
        e.outsideIs("a doesn't", x.check(1, 3, 0), 0);
        Checks.fill(x, 0, 3, 0, 5, 6 + (1L << 32));
        e.outsideIs("c does not in an hour of 33 bits", x.check(1, 3, 0), 2);
        Checks.fill(x, 0, 2, 0, 5, -1);
        e.inside(x, "c takes in none", x.check(1, 1, 0), -1);
        Checks.fill(x, 0, 2, 0, -1, -1);
        e.inside(x, "b and c take in none", x.check(1, 0, 0), -1);
        Checks.fill(x, 0, 2, -1, -1, -1);
        e.inside(x, "no seeds", x.check(0, 3, 0), -1);
        e.outsideIs("one seed", x.check(4, 3, 0), 2);
    }

    private void checkStatus() {
        e.sentence(35, "CHECK: the first who does not; STATUS 0 also with NONE: all do (1; 2; 3; 4; in this order)");
        TellFirst x = Checks.made("person a;person b;tie a to b odds 8;");
        e.outside(x, "1 ahead of 2", x.check(4, 2, 4), 1);
        e.outside(x, "1 below", x.check(4, 2, -1), 1);
        e.outside(x, "2 ahead of 3, seeds", x.check(4, 0, 0), 2);
        e.outside(x, "2 ahead of 3, lot", x.check(1, 2, 0), 2);
        e.outside(x, "seeds -1", x.check(-1, 0, 0), 2);
        e.outside(x, "lot -1", x.check(1, -1, 0), 2);
        e.outside(x, "3", x.check(1, 1, 0), 3);
        Checks.fill(x, 0, 0, 9);
        e.outside(x, "4, though the first does not", x.check(1, 1, 0), 4);
        Checks.fill(x, 0, 0, 0, 1);
        e.inside(x, "all do", x.check(1, 1, 0), -1);
        Checks.fill(x, 0, 0, 0, 1, 77);
        e.inside(x, "a number more", x.check(1, 1, 0), -1);
        TellFirst none = new TellFirst();
        none.tray(3, 0, 0);
        e.inside(none, "no people", none.check(0, 0, 3), -1);
    }

    /** What is drawn for a tie, without Java's wrap-around. */
    private static int draw(int k, int t) {
        java.math.BigInteger sum = java.math.BigInteger.valueOf(40503).multiply(java.math.BigInteger.valueOf(k))
            .add(java.math.BigInteger.valueOf(9973).multiply(java.math.BigInteger.valueOf(t)))
            .add(java.math.BigInteger.valueOf(1299709));
        return sum.multiply(java.math.BigInteger.valueOf(69069)).divide(java.math.BigInteger.valueOf(2048))
            .mod(java.math.BigInteger.valueOf(16)).intValue();
    }

    private void draws() {
        e.sentence(36, "of that the rest by 16, is less than its ODDS (all of 64 bits, none of it below 0)");
        for (int k : new int[] {0, 1, 2, 767, 5000, 9998, 9999}) {
            int drawn = draw(k, 0);
            TellFirst x = Checks.made("person a;person b;tie a to b odds " + (drawn + 1) + ";");
            e.inside(x, "less than its odds, lot " + k, x.lot(k), 1);
            x = Checks.made("person a;person b;tie a to b odds " + drawn + ";");
            e.outsideIs("as much as its odds, lot " + k, x.lot(k), 0);
        }
        TellFirst x = Checks.made("person a;person b;tie a to b odds 16;tie b to a odds 0;");
        for (int k = 0; k < 50; k++) {
            e.inside(x, "16 is always open, 0 never, lot " + k, x.lot(199 * k), 1);
        }
    }

    private void drawsOfAll() {
        e.sentence(36, "LOT k (0 to 9,999) by draws");
        TellFirst x = Checks.made(Edges.people(12) + Edges.star(10, 8));
        for (int k : new int[] {0, 1, 31, 4242, 9998, 9999}) {
            int want = 0;
            for (int t = 0; t < 10; t++) {
                want |= draw(k, t) < 8 ? 1 << t : 0;
            }
            e.inside(x, "lot " + k, x.lot(k), want);
        }
        e.outside(x, "lot -1", x.lot(-1), 5);
        e.outside(x, "lot 10,000", x.lot(10000), 5);
        e.sentence(36, "LOT k by draws: a set (5)");
        e.outside(x, "the least", x.lot(Integer.MIN_VALUE), 5);
        e.outside(x, "the greatest", x.lot(Integer.MAX_VALUE), 5);
        TellFirst none = new TellFirst();
        e.inside(none, "no ties", none.lot(9999), 0);
        e.outside(none, "no ties, lot 10,000", none.lot(10000), 5);
    }

    private void meterRests() {
        e.sentence(37, "METER: of LOTS 0 to n - 1 (n 1 to 500) how many, in which a SEED is in the BACK WALK of the "
            + "person k by PEOPLE (the rest)");
        TellFirst x = Checks.made("person a;person b;person c;");
        e.inside(x, "the first lot is a's", x.meter(1, 1), 1);
        e.outsideIs("not b's", x.meter(2, 1), 0);
        e.inside(x, "the second is b's", x.meter(2, 2), 1);
        e.inside(x, "the third is c's", x.meter(4, 3), 1);
        e.outsideIs("the third is c's alone", x.meter(4, 2), 0);
        e.inside(x, "the fourth is a's again", x.meter(1, 4), 2);
        e.inside(x, "a's of 500", x.meter(1, 500), 167);
        e.inside(x, "b's of 500", x.meter(2, 500), 167);
        e.inside(x, "c's of 500", x.meter(4, 500), 166);
        e.inside(x, "any's", x.meter(7, 500), 500);
        e.outsideIs("none's", x.meter(0, 500), 0);
        x = Checks.made("person a;person b;tie a to b odds 16;");
        e.inside(x, "a is in both walks", x.meter(1, 500), 500);
        x.refuse(1, true);
        e.outsideIs("not in that of one who says no", x.meter(1, 500), 250);
        x = Checks.made("person a;person b;tie a to b odds 1;");
        int hits = 0;
        for (int k = 0; k < 500; k++) {
            hits += k % 2 == 0 || draw(k, 0) < 1 ? 1 : 0;
        }
        e.inside(x, "a sixteenth", x.meter(1, 500), hits);
        x = Checks.made("person a;");
        e.inside(x, "all are of the one there is", x.meter(1, 500), 500);
        x = Checks.made(Edges.people(12));
        e.inside(x, "the twelfth's in lot 11", x.meter(2048, 12), 1);
        e.outsideIs("not one ahead", x.meter(2048, 11), 0);
    }

    private void meterStatus() {
        e.sentence(37, "METER (2; 5; 8: no PEOPLE)");
        TellFirst x = Checks.made("person a;person b;");
        e.inside(x, "n 1", x.meter(3, 1), 1);
        e.inside(x, "n 500", x.meter(3, 500), 500);
        e.outside(x, "n 0", x.meter(3, 0), 5);
        e.outside(x, "n 501", x.meter(3, 501), 5);
        e.outside(x, "n -1", x.meter(3, -1), 5);
        e.outside(x, "the greatest n", x.meter(3, Integer.MAX_VALUE), 5);
        e.outside(x, "seeds 4", x.meter(4, 1), 2);
        e.outside(x, "seeds -1", x.meter(-1, 1), 2);
        e.outside(x, "2 ahead of 5", x.meter(4, 0), 2);
        TellFirst none = new TellFirst();
        e.outside(none, "no people", none.meter(0, 500), 8);
        e.outside(none, "5 ahead of 8", none.meter(0, 501), 5);
        e.outside(none, "2 ahead of 8", none.meter(1, 500), 2);
    }
}
