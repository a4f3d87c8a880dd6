/** Boundary cases of promises 21 to 24: greedy, best, bound, rounds. */
final class ChosenEdges {
    private static final String CHAIN = "person a;person b;person c;tie a to b odds 8;tie b to c odds 4;";

    private final Edges e;

    ChosenEdges(Edges edges) {
        e = edges;
    }

    void all() {
        purses();
        valleys();
        soMany();
        statuses();
        greedyOrder();
        greedyGrowth();
        bestOfAll();
        growths();
        boundForBest();
        roundsSeen();
        roundsBlind();
        roundsAbove();
        roundsStatus();
    }

    private void purses() {
        e.sentence(21, "CHOSEN may be SEEDS that cost a PURSE together at most");
        TellFirst x = Checks.made("person a costs 5;person b costs 3;person c costs 2;");
        e.inside(x, "greedy, a and b for 8", x.greedy(2, 8), 3);
        e.outsideIs("greedy, a and b for 7", x.greedy(2, 7), 5);
        e.outsideIs("greedy, a and another one for 6", x.greedy(2, 6), 1);
        e.inside(x, "best, a and b for 8", x.best(2, 8), 3);
        e.outsideIs("best, a and b for 7", x.best(2, 7), 5);
        e.outsideIs("best, a and another one for 6", x.best(2, 6), 6);
        e.inside(x, "c for 2", x.best(1, 2), 4);
        e.outsideIs("c for 1", x.best(1, 1), 0);
        x = Checks.made("person a costs 0;person b costs 99;");
        e.inside(x, "0 for 0", x.greedy(2, 0), 1);
        e.inside(x, "99 for 99", x.greedy(2, 99), 3);
        e.outsideIs("99 for 98", x.greedy(2, 98), 1);
    }

    private void valleys() {
        e.sentence(21, "of each VALLEY no more than it lets");
        String people = "person a in 2;person b in 2;person c;";
        TellFirst x = Checks.made(people + "valley 2 most 2;");
        e.inside(x, "it lets two, greedy", x.greedy(3, 9), 7);
        e.inside(x, "it lets two, best", x.best(3, 9), 7);
        x = Checks.made(people + "valley 2 most 1;");
        e.outsideIs("it lets one, greedy", x.greedy(3, 9), 5);
        e.outsideIs("it lets one, best", x.best(3, 9), 5);
        x = Checks.made(people + "valley 2 most 0;");
        e.outsideIs("it lets none, greedy", x.greedy(3, 9), 4);
        e.outsideIs("it lets none, best", x.best(3, 9), 4);
        x = Checks.made(people + "valley 0 most 0;");
        e.outsideIs("of valley 0 without a word", x.greedy(3, 9), 3);
    }

    private void soMany() {
        e.sentence(21, "so many (1 to 4) at most");
        TellFirst x = Checks.made(Edges.people(5));
        for (int many = 1; many <= 4; many++) {
            e.inside(x, "greedy " + many, x.greedy(many, 9), (1 << many) - 1);
            e.inside(x, "best " + many, x.best(many, 9), (1 << many) - 1);
            e.insideFraction(x, "bound " + many, x.bound(many, 9), Math.min(5, 2 * many), 1);
        }
        for (int many : new int[] {0, 5, -1, Integer.MIN_VALUE, Integer.MAX_VALUE}) {
            e.outside(x, "greedy " + many, x.greedy(many, 9), 5);
            e.outside(x, "best " + many, x.best(many, 9), 5);
            e.outside(x, "bound " + many, x.bound(many, 9), 5);
        }
    }

    private void statuses() {
        TellFirst x = Checks.made("person a;person b;tie a to b odds 4;");
        e.sentence(21, "GREEDY: the set; the FRACTION is its SPREAD (5: so many, a PURSE 0 to 999)");
        e.insideFraction(x, "purse 0", x.greedy(1, 0), 0, 0, 1);
        e.insideFraction(x, "purse 999", x.greedy(1, 999), 1, 5, 4);
        e.outside(x, "purse -1", x.greedy(1, -1), 5);
        e.outside(x, "purse 1000", x.greedy(1, 1000), 5);
        e.sentence(22, "BEST: the set; the FRACTION is its SPREAD (5)");
        e.insideFraction(x, "purse 0", x.best(1, 0), 0, 0, 1);
        e.insideFraction(x, "purse 999", x.best(1, 999), 1, 5, 4);
        e.outside(x, "purse -1", x.best(1, -1), 5);
        e.outside(x, "purse 1000", x.best(1, 1000), 5);
        e.sentence(23, "The FRACTION is the BOUND (5)");
        e.insideFraction(x, "purse 0", x.bound(1, 0), 5, 4);
        e.insideFraction(x, "purse 999", x.bound(1, 999), 2, 1);
        e.outside(x, "purse -1", x.bound(1, -1), 5);
        e.outside(x, "purse 1000", x.bound(1, 1000), 5);
        TellFirst none = new TellFirst();
        e.insideFraction(none, "no people", none.bound(4, 999), 0, 1);
    }

    private void greedyOrder() {
        e.sentence(21, "one by one the one with which the SPREAD is greatest then (of several the lesser)");
        String people = "person a;person b;person c;person d;";
        TellFirst x = Checks.made(people + "tie b to a odds 1;tie c to a odds 1;");
        e.insideFraction(x, "b as good as c", x.greedy(1, 9), 2, 17, 16);
        x = Checks.made(people + "tie b to a odds 1;tie c to a odds 2;");
        e.outsideFraction(x, "c by a sixteenth", x.greedy(1, 9), 4, 18, 16);
        x = Checks.made(people);
        e.insideFraction(x, "all alike", x.greedy(3, 9), 7, 3, 1);
        // Behind b, a and c add nothing: "greatest then", not greatest alone.
        x = Checks.made(people + "tie b to c odds 16;tie b to a odds 16;");
        e.insideFraction(x, "behind b none but d adds", x.greedy(2, 9), 10, 4, 1);
    }

    private void greedyGrowth() {
        e.sentence(21, "as long as one may be added with which it grows, and there are fewer than so many");
        TellFirst x = Checks.made("person a;person b;tie a to b odds 15;");
        e.insideFraction(x, "it grows by a sixteenth", x.greedy(2, 9), 3, 2, 1);
        e.outsideFraction(x, "there are so many", x.greedy(1, 9), 1, 31, 16);
        x = Checks.made("person a;person b;tie a to b odds 16;");
        e.outsideFraction(x, "it grows no more", x.greedy(2, 9), 1, 2, 1);
        x.refuse(1, true);
        e.insideFraction(x, "one who says no grows it", x.greedy(2, 9), 3, 2, 1);
        x = Checks.made("person a costs 2;person b costs 2;");
        e.outsideFraction(x, "none may be added", x.greedy(2, 3), 1, 1, 1);
        e.insideFraction(x, "one may be added", x.greedy(2, 4), 3, 2, 1);
        x = new TellFirst();
        e.outsideFraction(x, "no people", x.greedy(4, 999), 0, 0, 1);
    }

    private void bestOfAll() {
        e.sentence(22, "BEST: of all sets that may be CHOSEN that with the greatest SPREAD; of several the one of "
            + "fewest, of several the least set");
        TellFirst x = Checks.made("person a;person b;tie a to b odds 16;");
        e.insideFraction(x, "one as good as two", x.best(2, 9), 1, 2, 1);
        x = Checks.made("person a;person b;tie a to b odds 15;");
        e.outsideFraction(x, "two by a sixteenth", x.best(2, 9), 3, 2, 1);
        x = Checks.made("person a;person b;person c;person d;tie c to a odds 16;");
        e.insideFraction(x, "c reaches two", x.best(1, 9), 4, 2, 1);
        e.insideFraction(x, "b and c as good as c and d", x.best(2, 9), 6, 3, 1);
        x = Checks.made("person a;person b;person c;");
        e.insideFraction(x, "the least of three sets", x.best(2, 9), 3, 2, 1);
        x = Checks.made("person a;person b;person c;person d;tie d to b odds 1;");
        e.outsideFraction(x, "a sixteenth more of d", x.best(1, 9), 8, 17, 16);
        x = Checks.made("person a costs 9;");
        e.outsideFraction(x, "none may be chosen", x.best(4, 8), 0, 0, 1);
        // Greedy takes m; l and r, which reach more, are found by going through all.
        x = Checks.made("person m;person l;person r;person a;person b;person c;person d;tie m to b odds 16;"
            + "tie m to c odds 16;tie m to a odds 8;tie l to a odds 16;tie l to b odds 16;tie r to c odds 16;"
            + "tie r to d odds 16;");
        e.outsideFraction(x, "greedy", x.greedy(2, 9), 5, 11, 2);
        e.insideFraction(x, "best", x.best(2, 9), 6, 6, 1);
        x = new TellFirst();
        e.outsideFraction(x, "no people", x.best(4, 999), 0, 0, 1);
    }

    private void growths() {
        e.sentence(23, "the so many greatest growths that one more (that is not one of them, whatever it costs and its "
            + "VALLEY) would add to it");
        TellFirst x = Checks.made(CHAIN);
        e.insideFraction(x, "one growth of two", x.bound(1, 999), 13 + 7, 8);
        e.insideFraction(x, "two growths asked, one is left", x.bound(2, 999), 5 + 1, 2);
        e.outsideFraction(x, "none is left", x.bound(3, 999), 3, 1);
        e.outsideFraction(x, "four asked of three", x.bound(4, 999), 3, 1);
        e.insideFraction(x, "greedy is none: the greatest of three", x.bound(1, 0), 13, 8);
        e.insideFraction(x, "greedy is none: two of three", x.bound(2, 0), 13 + 10, 8);
        e.insideFraction(x, "greedy is none: all three", x.bound(3, 0), 13 + 10 + 8, 8);
        x = Checks.made("person a costs 0;person b costs 99;person c costs 0 in 1;valley 1 most 0;");
        e.insideFraction(x, "a, and one that costs", x.bound(1, 0), 2, 1);
        e.insideFraction(x, "a, one that costs, one of the valley", x.bound(2, 0), 3, 1);
        x = Checks.made("person a;person b;tie a to b odds 16;");
        e.outsideFraction(x, "one that adds nothing", x.bound(1, 9), 2, 1);
        x = Checks.made("person a;");
        e.insideFraction(x, "of one alone, none is chosen", x.bound(4, 0), 1, 1);
        e.outsideFraction(x, "of one alone, it is chosen", x.bound(4, 1), 1, 1);
        // Twelve people: a reaches six, the twelfth itself, each other one adds a half.
        x = Checks.made(Edges.people(12) + Edges.star(10, 8));
        e.insideFraction(x, "greedy of a full net", x.greedy(4, 9), 1 | 2 | 4 | 2048, 8, 1);
        e.insideFraction(x, "best of a full net", x.best(4, 9), 1 | 2 | 4 | 2048, 8, 1);
        e.insideFraction(x, "bound of a full net", x.bound(4, 9), 10, 1);
        e.insideFraction(x, "bound of a full net, none is chosen", x.bound(4, 0), 9, 1);
    }

    private void boundForBest() {
        e.sentence(23, "it is one for BEST, if all NEED 1");
        TellFirst x = Checks.made("person m;person l;person r;person a;person b;person c;person d;tie m to b odds 16;"
            + "tie m to c odds 16;tie m to a odds 8;tie l to a odds 16;tie l to b odds 16;tie r to c odds 16;"
            + "tie r to d odds 16;");
        x.best(2, 9);
        long best = x.top() * 16 / x.bottom();
        x.bound(2, 9);
        e.insideIs("all need 1: not below best", x.top() * 16 / x.bottom() >= best ? 1 : 0, 1);
        StringBuilder text = new StringBuilder("person d;person e;person a;person b;");
        for (char name = 'p'; name < 'u'; name++) {
            text.append("person ").append(name).append(" needs 2;tie a to ").append(name).append(" odds 16;tie b to ")
                .append(name).append(" odds 16;");
        }
        x = Checks.made(text.toString());
        e.outsideFraction(x, "five need 2: best", x.best(2, 9), 12, 7, 1);
        e.outsideFraction(x, "five need 2: bound", x.bound(2, 9), 4, 1);
    }

    private void roundsSeen() {
        e.sentence(24, "then it is seen who is REACHED by a, and one more is told (b), by what was seen alone");
        TellFirst x = Checks.made(CHAIN);
        // Told next is c, if b is not seen to be reached or c is not: 5 by 2 blindly, and an eighth more.
        e.insideFraction(x, "what is seen helps", x.rounds(0), 0, 21, 8);
        e.outsideFraction(x, "blindly", x.rounds(1), 5, 5, 2);
        // Told next is c, if b alone is seen, and b, if c alone is: 2 of a alone, else 3.
        x = Checks.made("person a;person b;person c;tie a to b odds 8;tie a to c odds 8;");
        e.insideFraction(x, "one or the other", x.rounds(0), 0, 11, 4);
        e.outsideFraction(x, "one or the other, blindly", x.rounds(1), 3, 5, 2);
        x = Checks.made("person b;person c;person a;tie a to b odds 8;tie a to c odds 8;");
        e.insideFraction(x, "one or the other, told by the last", x.rounds(0), 2, 11, 4);
        x = Checks.made("person a;person b;tie a to b odds 16;");
        e.insideFraction(x, "one is enough", x.rounds(0), 0, 2, 1);
        x = Checks.made("person a;");
        e.insideFraction(x, "there is one alone", x.rounds(0), 0, 1, 1);
        e.sentence(24, "SEEN is the greatest mean of how many are REACHED by a and b together, each b by what is seen "
            + "the best");
        x = Checks.made("person x;person a;person b;tie a to b odds 8;tie b to x odds 4;");
        e.insideFraction(x, "the first told is not person 0", x.rounds(0), 1, 21, 8);
        // If b, person 0, is seen without f, told next is d; if b is not seen, b: 57, 25, 7 and 9 by 32.
        TellFirst y = Checks.made("person b;person a;person d;person f;tie a to b odds 8;tie b to f odds 9;");
        e.insideFraction(y, "who is seen is person 0", y.rounds(0), 1, 49, 16);
        x.refuse(2, true);
        e.outsideFraction(x, "b says no: nothing is to be seen", x.rounds(0), 1, 9, 4);
        x = Checks.made("person a;person b;person c needs 2;tie a to c odds 16;tie b to c odds 16;");
        e.insideFraction(x, "both together reach c", x.rounds(0), 0, 3, 1);
    }

    private void roundsBlind() {
        e.sentence(24, "BLIND the greatest SPREAD of one or two SEEDS (whatever they cost, whatever VALLEYS)");
        TellFirst x = Checks.made("person a costs 99 in 1;person b costs 99 in 1;person c costs 0;valley 1 most 0;"
            + "tie a to c odds 1;");
        e.insideFraction(x, "dear ones of a valley that lets none", x.rounds(1), 3, 33, 16);
        e.outsideFraction(x, "best may not", x.best(2, 0), 4, 1, 1);
        x = Checks.made(Edges.people(3));
        e.outsideFraction(x, "no three", x.rounds(1), 3, 2, 1);
        x = Checks.made("person a;");
        e.insideFraction(x, "one alone", x.rounds(1), 1, 1, 1);
        e.sentence(24, "for 1, 2 the set of BLIND (of several the one of fewest, of several the least)");
        x = Checks.made("person a;person b;person c;tie b to a odds 16;tie b to c odds 16;");
        e.insideFraction(x, "one as good as two", x.rounds(1), 2, 3, 1);
        x = Checks.made("person a;person b;person c;tie b to a odds 16;tie b to c odds 15;");
        e.outsideFraction(x, "two by a sixteenth", x.rounds(1), 6, 3, 1);
        x = Checks.made("person a;person b;person c;");
        e.insideFraction(x, "the least of three", x.rounds(1), 3, 2, 1);
        e.insideFraction(x, "the same set for 2", x.rounds(2), 3, 0, 1);
    }

    private void roundsAbove() {
        e.sentence(24, "2: by how much SEEN is above BLIND; the person first told of SEEN (of several the lesser)");
        TellFirst x = Checks.made(CHAIN);
        e.insideFraction(x, "above", x.rounds(2), 5, 1, 8);
        x = Checks.made("person a;person b;tie a to b odds 16;");
        e.outsideFraction(x, "not above", x.rounds(2), 1, 0, 1);
        x = Checks.made(Edges.people(3));
        e.insideFraction(x, "all alike: the lesser", x.rounds(0), 0, 2, 1);
        // One tells ten others, each at even odds, and none the twelfth.
        x = Checks.made(Edges.people(12) + Edges.star(10, 8));
        e.insideFraction(x, "1,024 views", x.rounds(0), 0, 7, 1);
        e.outsideFraction(x, "1,024 views, not above", x.rounds(2), 1 | 2048, 0, 1);
    }

    private void roundsStatus() {
        e.sentence(24, "(5; 8: no PEOPLE)");
        TellFirst x = Checks.made("person a;");
        e.insideFraction(x, "rounds(0)", x.rounds(0), 0, 1, 1);
        e.insideFraction(x, "rounds(2)", x.rounds(2), 1, 0, 1);
        e.outside(x, "rounds(-1)", x.rounds(-1), 5);
        e.outside(x, "rounds(3)", x.rounds(3), 5);
        TellFirst none = new TellFirst();
        for (int what = 0; what <= 2; what++) {
            e.outside(none, "rounds(" + what + ") of none", none.rounds(what), 8);
        }
        e.outside(none, "5 ahead of 8", none.rounds(3), 5);
        e.outside(none, "5 ahead of 8", none.rounds(-1), 5);
    }
}
