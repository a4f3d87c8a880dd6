/** Promises 25 to 28: fight, answer, latest, stops. */
public final class FightTest {
    private static final Checks checks = new Checks("FightTest");

    public static void main(String[] args) {
        wrongCalls();
        hours();
        likeIsRed();
        lateMinds();
        needsOfBoth();
        answers();
        latest();
        stops();
        checks.end();
    }

    private static void means(TellFirst x, int red, int blue, int hour, long reds, long blues) {
        String what = "fight " + red + " " + blue + " " + hour;
        checks.due(x, what, x.fight(red, blue, hour, 0), true, 0);
        checks.fraction(x, what + " red", reds, 1);
        checks.due(x, what, x.fight(red, blue, hour, 1), true, 0);
        checks.fraction(x, what + " blue", blues, 1);
    }

    private static void wrongCalls() {
        TellFirst x = Checks.made("person a;person b;tie a to b odds 4;");
        checks.due(x, "red with others", x.fight(4, 1, 99, 9), false, 2);
        checks.due(x, "blue with others", x.fight(1, -1, 99, 9), false, 2);
        checks.due(x, "hour 21", x.fight(1, 1, 21, 0), false, 5);
        checks.due(x, "hour -1", x.fight(1, 1, -1, 0), false, 5);
        checks.due(x, "what 2", x.fight(1, 1, 0, 2), false, 5);
        checks.due(x, "what -1", x.fight(1, 1, 0, -1), false, 5);
        checks.due(x, "hour 20", x.fight(1, 2, 20, 1), true, 0);
        checks.fraction(x, "hour 20", 3, 4);
        checks.due(x, "answer 2", x.answer(4, 21), -1, 2);
        checks.due(x, "answer 5", x.answer(1, 21), -1, 5);
        checks.due(x, "answer 5", x.answer(1, -1), -1, 5);
        checks.due(x, "latest 2", x.latest(4, 0), -1, 2);
        checks.due(x, "latest 2", x.latest(1, 2), -1, 2);
        checks.due(x, "latest 2", x.latest(1, -1), -1, 2);
        checks.due(x, "stops 2", x.stops(4, 4), -1, 2);
        checks.due(x, "stops 5", x.stops(1, 4), -1, 5);
        checks.due(x, "stops 5", x.stops(1, -1), -1, 5);
        checks.fraction(x, "calls that failed", 3, 4);
        TellFirst none = new TellFirst();
        checks.due(none, "no people", none.answer(0, 0), -1, 8);
        checks.due(none, "no people, no hour", none.answer(0, 21), -1, 5);
        checks.due(none, "no people, no set", none.answer(1, 0), -1, 2);
        means(none, 0, 0, 0, 0, 0);
        checks.due(none, "stops of none", none.stops(0, 3), 0, 0);
    }

    /** a tells b in hour 2, c in hour 5. */
    private static void hours() {
        TellFirst x = Checks.made("person a;person b;person c stubborn;person d;tie a to b odds 16 hours 2;"
            + "tie b to c odds 16 hours 1;tie b to d odds 16 hours 3;");
        means(x, 1, 0, 0, 3, 0);
        means(x, 1, 1, 0, 3, 0);
        means(x, 1, 2, 0, 1, 2);
        means(x, 1, 2, 2, 1, 2);
        means(x, 1, 2, 3, 3, 0);
        means(x, 1, 8, 5, 2, 1);
        means(x, 1, 8, 6, 3, 0);
        means(x, 1, 4, 20, 3, 1);
        means(x, 4, 1, 0, 1, 3);
        means(x, 0, 15, 20, 0, 4);
    }

    private static void likeIsRed() {
        TellFirst x = Checks.made("person r;person b;person c;person d;tie r to c odds 16;tie b to c odds 16;"
            + "tie d to c odds 16;");
        means(x, 1, 2, 0, 2, 1);
        means(x, 1, 10, 0, 1, 3);
        means(x, 1, 2, 1, 2, 1);
        means(x, 2, 1, 0, 2, 1);
    }

    /** c makes up its mind in hour 1 and takes in hour 6; it can't be told else in between. */
    private static void lateMinds() {
        TellFirst x = Checks.made("person a;person c late 5;person d;tie a to c odds 16;tie c to d odds 16;");
        means(x, 1, 2, 1, 1, 2);
        means(x, 1, 2, 2, 3, 0);
        means(x, 1, 2, 6, 3, 0);
        means(x, 1, 4, 7, 2, 1);
        means(x, 1, 4, 8, 3, 0);
        checks.due(x, "the hour", x.lead(1, 3, 2, 1), 7, 0);
    }

    /** One red early, two blue later: all that told by then count. */
    private static void needsOfBoth() {
        TellFirst x = Checks.made("person r;person b;person d;person c needs 3;person e needs 2;"
            + "tie r to c odds 16 hours 5;tie b to c odds 16;tie d to c odds 16 hours 2;"
            + "tie r to e odds 16 hours 1;tie b to e odds 16 hours 4;");
        means(x, 1, 6, 0, 2, 3);
        means(x, 1, 2, 0, 2, 1);
        means(x, 1, 6, 9, 2, 3);
    }

    private static void answers() {
        TellFirst x = Checks.made("person a;person b;person c;tie a to b odds 8;tie b to c odds 4;");
        checks.due(x, "answer", x.answer(1, 0), 1, 0);
        checks.fraction(x, "answer", 5, 4);
        checks.due(x, "late answer", x.answer(1, 20), 2, 0);
        checks.fraction(x, "late answer", 7, 8);
        checks.due(x, "all are red", x.answer(7, 0), 0, 0);
        checks.fraction(x, "all are red", 0, 1);
        checks.due(x, "no red", x.answer(0, 0), 0, 0);
        checks.fraction(x, "no red", 13, 8);
        x = Checks.made("person a;person b;person c;");
        checks.due(x, "of several the lesser", x.answer(1, 3), 1, 0);
    }

    private static void latest() {
        TellFirst x = Checks.made("person a;person b late 2;person c;person d;tie a to b odds 16 hours 3;"
            + "tie b to c odds 16;tie b to d odds 16;");
        checks.due(x, "latest", x.latest(1, 1), 3, 0);
        checks.due(x, "a seed", x.latest(1, 0), -1, 9);
        checks.due(x, "too little", x.latest(1, 2), -1, 9);
        checks.due(x, "at most half of none", x.latest(0, 0), 20, 0);
        x = Checks.made("person a;person b;tie a to b odds 16 hours 4;");
        checks.due(x, "just half", x.latest(1, 1), 4, 0);
        x = Checks.made("person a;person b;person c;tie a to c odds 16 hours 2;tie b to c odds 16;");
        checks.due(x, "in hour 0 alone", x.latest(1, 1), 0, 0);
        checks.due(x, "against another", x.latest(2, 2), 1, 0);
        x = Checks.made("person a;person b;person c;person d;person e;tie b to c odds 16;tie c to e odds 16;"
            + "tie b to d odds 16 hours 2;tie a to d odds 16;");
        checks.due(x, "none but that one is blue", x.latest(2, 2), 1, 0);
        x = Checks.made("person a;person b;tie a to b odds 15 hours 4;");
        checks.due(x, "not half", x.latest(1, 1), -1, 9);
    }

    private static void stops() {
        TellFirst x = Checks.made("person a;person b;person c;person d;tie a to b odds 8;tie a to c odds 16;"
            + "tie c to d odds 4;tie b to c odds 0;");
        checks.due(x, "none", x.stops(1, 0), 0, 0);
        checks.fraction(x, "none", 11, 4);
        checks.due(x, "one", x.stops(1, 1), 2, 0);
        checks.fraction(x, "one", 3, 2);
        checks.due(x, "two", x.stops(1, 2), 3, 0);
        checks.fraction(x, "two", 1, 1);
        checks.due(x, "three, of fewest", x.stops(1, 3), 3, 0);
        checks.due(x, "nothing to close", x.stops(8, 3), 0, 0);
        checks.fraction(x, "nothing to close", 1, 1);
        x = Checks.made("person a;person b;person c;tie b to c odds 8;tie a to b odds 8;tie a to c odds 0;");
        checks.due(x, "least set", x.stops(2, 3), 1, 0);
        checks.due(x, "the one near", x.stops(1, 1), 2, 0);
        x = Checks.made("person a;person b;person c;tie a to b odds 8;tie a to c odds 8;");
        checks.due(x, "of several the least", x.stops(1, 1), 1, 0);
    }
}
