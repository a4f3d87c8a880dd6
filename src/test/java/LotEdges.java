/** Boundary cases of promises 16 to 20: weight, reached, backWalk, spread, adds. */
final class LotEdges {
    private static final String CHAIN = "person a;person b;person c;tie a to b odds 8;tie b to c odds 4;";

    private final Edges e;

    LotEdges(Edges edges) {
        e = edges;
    }

    void all() {
        lots();
        weights();
        allWeights();
        seeds();
        stubbornSeeds();
        needs();
        walks();
        walksOfStubbornOnes();
        means();
        closed();
        adds();
    }

    private void lots() {
        e.sentence(16, "A LOT says of each TIE whether it is OPEN: a set (1 for TIE 0, 2 for 1 ..)");
        TellFirst x = Checks.made(CHAIN);
        e.inside(x, "no tie", x.weight(0), 8 * 12);
        e.inside(x, "tie 0", x.weight(1), 8 * 12);
        e.inside(x, "tie 1", x.weight(2), 8 * 4);
        e.inside(x, "both", x.weight(3), 8 * 4);
        e.outside(x, "a third", x.weight(4), 2);
        e.sentence(16, "WEIGHT of a LOT (2)");
        e.inside(x, "the greatest lot", x.weight(3), 8 * 4);
        for (int lot : new int[] {4, 7, -1, Integer.MIN_VALUE, Integer.MAX_VALUE}) {
            e.outside(x, "weight(" + lot + ")", x.weight(lot), 2);
        }
        x = Checks.made(Edges.people(12) + Edges.star(10, 1));
        e.inside(x, "lot 1023 of ten ties", x.weight(1023), 1);
        e.outside(x, "lot 1024 of ten ties", x.weight(1024), 2);
    }

    private void weights() {
        e.sentence(16, "of each TIE its ODDS, if it is OPEN, else 16 less them, times one another");
        TellFirst x = Checks.made("person a;person b;tie a to b odds 16;tie b to a odds 0;");
        e.inside(x, "odds 16 open, 0 closed", x.weight(1), 256);
        e.outsideIs("odds 16 closed", x.weight(0), 0);
        e.outsideIs("odds 0 open", x.weight(3), 0);
        x = Checks.made("person a;person b;tie a to b odds 15;tie b to a odds 1;");
        e.inside(x, "odds 15 open, 1 closed", x.weight(1), 15 * 15);
        e.inside(x, "odds 15 closed, 1 open", x.weight(2), 1);
    }

    private void allWeights() {
        e.sentence(16, "All WEIGHTS together are 16 to the power of how many TIES there are");
        TellFirst none = new TellFirst();
        e.inside(none, "no ties: one lot", none.weight(0), 1);
        e.outside(none, "no ties: no second lot", none.weight(1), 2);
        String text = Edges.people(12);
        for (int t = 0; t < 10; t++) {
            text += "tie a to " + (char) ('b' + t) + " odds " + (t + 3) + ";";
        }
        long sum = 0;
        TellFirst x = null;
        for (int lot = 0; lot < 1024; lot++) {
            x = lot % 256 == 0 ? Checks.made(text) : x;
            sum += x.weight(lot);
        }
        e.insideIs("ten ties", sum, 1L << 40);
        e.outside(x, "ten ties: no lot behind", x.weight(1024), 2);
        x = Checks.made(Edges.people(12) + Edges.star(10, 16));
        e.inside(x, "the greatest weight", x.weight(1023), 1L << 40);
    }

    private void seeds() {
        e.sentence(17, "REACHED by SEEDS (a set of PEOPLE: 1 for 0, 2 for 1 ..) in a LOT");
        TellFirst x = Checks.made(Edges.people(12) + Edges.chain(10, "3"));
        e.inside(x, "no seeds", x.reached(0, 1023), 0);
        e.inside(x, "all are seeds", x.reached(4095, 0), 4095);
        e.inside(x, "the last", x.reached(2048, 1023), 2048);
        e.inside(x, "over ten ties", x.reached(1, 1023), 2047);
        e.inside(x, "over four", x.reached(1, 1023 - 16), 31);
        e.outside(x, "a 13th", x.reached(4096, 0), 2);
        e.sentence(17, "REACHED by SEEDS in a LOT: a set (2)");
        e.inside(x, "the greatest sets", x.reached(4095, 1023), 4095);
        for (int set : new int[] {-1, Integer.MIN_VALUE, Integer.MAX_VALUE}) {
            e.outside(x, "seeds " + set, x.reached(set, 0), 2);
            e.outside(x, "lot " + set, x.reached(1, set), 2);
        }
        e.outside(x, "seeds 4096", x.reached(4096, 0), 2);
        e.outside(x, "lot 1024", x.reached(1, 1024), 2);
    }

    private void stubbornSeeds() {
        e.sentence(17, "these (a STUBBORN one too, if it is one of them)");
        TellFirst x = Checks.made("person a;person b stubborn;person c;tie a to b odds 8;tie b to c odds 8;");
        e.inside(x, "a stubborn seed", x.reached(2, 0), 2);
        e.inside(x, "it tells others", x.reached(2, 2), 6);
        e.outsideIs("a stubborn one that is none", x.reached(1, 3), 1);
        e.sentence(17, "then, as long as there is one, each who is not STUBBORN");
        e.outsideIs("b is stubborn", x.reached(1, 3), 1);
        x.refuse(1, false);
        e.inside(x, "b is not", x.reached(1, 3), 7);
        e.inside(x, "none behind b", x.reached(1, 1), 3);
    }

    private void needs() {
        e.sentence(17, "to whom as many OPEN TIES as it NEEDS, or more, lead from those REACHED");
        for (int needs = 1; needs <= 3; needs++) {
            TellFirst x = Checks.made("person a;person b;person c;person d needs " + needs
                + ";tie a to d odds 1;tie b to d odds 1;tie c to d odds 1;");
            for (int tell = 0; tell <= 7; tell++) {
                String call = needs + " needed, told by the set " + tell;
                if (Integer.bitCount(tell) >= needs) {
                    e.inside(x, call, x.reached(tell, 7), tell | 8);
                    e.inside(x, call + " of open ties", x.reached(7, tell), 15);
                } else {
                    e.outsideIs(call, x.reached(tell, 7), tell);
                    e.outsideIs(call + " of open ties", x.reached(7, tell), 7);
                }
            }
        }
    }

    private void walks() {
        e.sentence(18, "BACK WALK: a set (2)");
        TellFirst x = Checks.made(Edges.people(12) + Edges.chain(10, "3"));
        e.inside(x, "person 0", x.backWalk(0, 1023), 1);
        e.inside(x, "person 11", x.backWalk(11, 1023), 2048);
        e.outside(x, "person -1", x.backWalk(-1, 0), 2);
        e.outside(x, "person 12", x.backWalk(12, 0), 2);
        e.outside(x, "person 32", x.backWalk(32, 0), 2);
        e.outside(x, "lot 1024", x.backWalk(0, 1024), 2);
        e.outside(x, "lot -1", x.backWalk(0, -1), 2);
        e.sentence(18, "all from whom OPEN TIES lead to it, over others too");
        e.inside(x, "over ten ties", x.backWalk(10, 1023), 2047);
        e.inside(x, "over one", x.backWalk(10, 512), 1024 | 512);
        e.outsideIs("the last is closed", x.backWalk(10, 511), 1024);
        e.outsideIs("the first is closed", x.backWalk(10, 1022), 2046);
        x = Checks.made("person a;person b needs 3;tie a to b odds 1;");
        e.inside(x, "whatever it needs", x.backWalk(1, 1), 3);
        StringBuilder text = new StringBuilder(Edges.people(12));
        for (char name = 'b'; name <= 'k'; name++) {
            text.append("tie ").append(name).append(" to a odds 8;");
        }
        x = Checks.made(text.toString());
        e.inside(x, "ten lead to one", x.backWalk(0, 1023), 2047);
        e.inside(x, "nine lead to one", x.backWalk(0, 1023 - 2), 2047 - 4);
        e.outsideIs("none does", x.backWalk(0, 0), 1);
    }

    private void walksOfStubbornOnes() {
        e.sentence(18, "none of these nor it itself STUBBORN (but perhaps the one from whom)");
        TellFirst x = Checks.made("person a;person b;person c;tie a to b odds 8;tie b to c odds 8;");
        e.inside(x, "none is", x.backWalk(2, 3), 7);
        x.refuse(0, true);
        e.inside(x, "the one from whom is", x.backWalk(2, 3), 7);
        x.refuse(1, true);
        e.outsideIs("one on the way is", x.backWalk(2, 3), 6);
        x.refuse(2, true);
        e.outsideIs("it itself is", x.backWalk(2, 3), 4);
        e.sentence(18, "it itself is one (of a STUBBORN one it alone)");
        e.outsideIs("a stubborn one", x.backWalk(1, 3), 2);
        x.refuse(1, false);
        e.inside(x, "stubborn no more", x.backWalk(1, 3), 3);
        e.inside(x, "to whom none leads", x.backWalk(0, 3), 1);
    }

    private void means() {
        e.sentence(19, "SPREAD of SEEDS: the mean of how many are REACHED, by WEIGHTS: a FRACTION");
        TellFirst x = Checks.made(CHAIN);
        e.insideFraction(x, "spread(1, 0)", x.spread(1, 0), 13, 8);
        e.insideFraction(x, "of all", x.spread(7, 0), 3, 1);
        e.outsideFraction(x, "of none", x.spread(0, 0), 0, 1);
        x = Checks.made("person a;person b;tie a to b odds 0;");
        e.outsideFraction(x, "odds 0", x.spread(1, 0), 1, 1);
        x = Checks.made("person a;person b;tie a to b odds 1;");
        e.insideFraction(x, "odds 1", x.spread(1, 0), 17, 16);
        x = Checks.made("person a;person b;tie a to b odds 16;");
        e.insideFraction(x, "odds 16", x.spread(1, 0), 2, 1);
        x = new TellFirst();
        e.outsideFraction(x, "no net", x.spread(0, 0), 0, 1);
        x = Checks.made(Edges.people(12) + Edges.star(10, 15));
        e.insideFraction(x, "a full net", x.spread(1, 0), 16 + 150, 16);
        e.insideFraction(x, "a full net, all seeds", x.spread(4095, 0), 12, 1);
    }

    private void closed() {
        e.sentence(19, "CLOSED are TIES that are OPEN in no LOT for what is asked (their WEIGHTS as they are)");
        TellFirst x = Checks.made(CHAIN);
        e.insideFraction(x, "none closed", x.spread(1, 0), 13, 8);
        e.insideFraction(x, "the second", x.spread(1, 2), 3, 2);
        e.insideFraction(x, "the first", x.spread(1, 1), 1, 1);
        e.insideFraction(x, "all", x.spread(1, 3), 1, 1);
        e.outsideFraction(x, "the next asks with none", x.spread(1, 0), 13, 8);
        e.outsideIs("weights are as they were", x.weight(3), 32);
        e.sentence(19, "The FRACTION is the SPREAD of SEEDS, TIES of a set CLOSED (2)");
        e.insideFraction(x, "the greatest sets", x.spread(7, 3), 3, 1);
        for (int set : new int[] {8, -1, Integer.MIN_VALUE}) {
            e.outside(x, "seeds " + set, x.spread(set, 0), 2);
            e.outside(x, "closed " + set, x.spread(1, set), 2);
        }
        e.outside(x, "closed 4", x.spread(1, 4), 2);
        e.outsideIs("the fraction stays", x.top(), 3);
    }

    private void adds() {
        e.sentence(20, "The FRACTION is by how much one more adds to the SPREAD of SEEDS (0 if it is one of them) (2)");
        TellFirst x = Checks.made(CHAIN);
        e.insideFraction(x, "one more", x.adds(1, 1), 5, 8);
        e.insideFraction(x, "the last one", x.adds(3, 2), 3, 4);
        e.insideFraction(x, "to none", x.adds(0, 0), 13, 8);
        e.outsideFraction(x, "one of them", x.adds(1, 0), 0, 1);
        e.outsideFraction(x, "one of all", x.adds(7, 2), 0, 1);
        e.outside(x, "person 3", x.adds(1, 3), 2);
        e.outside(x, "person -1", x.adds(1, -1), 2);
        e.outside(x, "person 32", x.adds(1, 32), 2);
        e.outside(x, "seeds 8", x.adds(8, 0), 2);
        e.outside(x, "seeds -1", x.adds(-1, 0), 2);
        x = Checks.made("person a;person b;tie a to b odds 16;");
        e.outsideFraction(x, "who is reached in any case", x.adds(1, 1), 0, 1);
        x.refuse(1, true);
        e.insideFraction(x, "who says no, but may be told", x.adds(1, 1), 1, 1);
    }
}
