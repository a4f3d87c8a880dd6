/** Boundary cases of promises 25 to 28: fight, answer, latest, stops. */
final class FightEdges {
    private final Edges e;

    FightEdges(Edges edges) {
        e = edges;
    }

    void all() {
        fightStatus();
        longestStory();
        seedsOfBoth();
        mindsMadeUp();
        hoursOfTies();
        needsByAnHour();
        likeIsRed();
        late();
        means();
        answers();
        latestHour();
        atMostHalf();
        stopsSoMany();
        stopsOfSeveral();
    }

    private void inside(TellFirst x, int red, int blue, int hour, int reds, int blues) {
        String call = "fight(" + red + ", " + blue + ", " + hour + ")";
        e.insideFraction(x, call + " red", x.fight(red, blue, hour, 0), reds, 1);
        e.insideFraction(x, call + " blue", x.fight(red, blue, hour, 1), blues, 1);
    }

    private void outside(TellFirst x, int red, int blue, int hour, int reds, int blues) {
        String call = "fight(" + red + ", " + blue + ", " + hour + ")";
        e.outsideFraction(x, call + " red", x.fight(red, blue, hour, 0), reds, 1);
        e.outsideFraction(x, call + " blue", x.fight(red, blue, hour, 1), blues, 1);
    }

    private void fightStatus() {
        e.sentence(25, "The FRACTION is the mean of who takes RED (what 0), BLUE (1), by both SEEDS, BLUE's in an hour "
            + "(2; 5)");
        TellFirst x = Checks.made("person a;person b;tie a to b odds 4;");
        e.insideFraction(x, "what 0", x.fight(1, 0, 0, 0), 5, 4);
        e.insideFraction(x, "what 1", x.fight(0, 1, 0, 1), 5, 4);
        e.insideFraction(x, "all seeds", x.fight(3, 3, 20, 0), 2, 1);
        e.outside(x, "what -1", x.fight(1, 2, 0, -1), 5);
        e.outside(x, "what 2", x.fight(1, 2, 0, 2), 5);
        e.outside(x, "red 4", x.fight(4, 2, 0, 0), 2);
        e.outside(x, "red -1", x.fight(-1, 2, 0, 0), 2);
        e.outside(x, "blue 4", x.fight(1, 4, 0, 0), 2);
        e.outside(x, "blue -1", x.fight(1, -1, 0, 0), 2);
        e.outside(x, "2 ahead of 5", x.fight(4, 2, 21, 2), 2);
        e.outside(x, "2 ahead of 5", x.fight(1, 4, 21, 2), 2);
        e.outsideIs("the fraction stays", x.top(), 2);
        TellFirst none = new TellFirst();
        e.insideFraction(none, "no people", none.fight(0, 0, 20, 1), 0, 1);
        e.sentence(25, "BLUE SEEDS take BLUE in their hour (0 to 20)");
        e.insideFraction(x, "hour 0", x.fight(0, 2, 0, 1), 1, 1);
        e.insideFraction(x, "hour 20", x.fight(0, 2, 20, 1), 1, 1);
        e.outside(x, "hour -1", x.fight(0, 2, -1, 1), 5);
        e.outside(x, "hour 21", x.fight(0, 2, 21, 1), 5);
        e.outside(x, "the least hour", x.fight(0, 2, Integer.MIN_VALUE, 1), 5);
        e.outside(x, "the greatest hour", x.fight(0, 2, Integer.MAX_VALUE, 1), 5);
    }

    /** Eleven people, ten ties of 5 hours, each 5 hours late: the last takes in hour 100, or 120. */
    private void longestStory() {
        e.sentence(25, "hour by hour in a LOT (hours 0 to 149)");
        StringBuilder text = new StringBuilder();
        for (int p = 0; p < 11; p++) {
            text.append("person ").append((char) ('a' + p)).append(" late 5;");
        }
        TellFirst x = Checks.made(text + Edges.chain(10, "16 hours 5"));
        inside(x, 1, 0, 0, 11, 0);
        inside(x, 0, 1, 20, 0, 11);
        inside(x, 1, 1024, 20, 10, 1);
        e.inside(x, "the last one's hour", x.lead(1, 1023, 10, 1), 100);
        outside(x, 0, 0, 20, 0, 0);
        Checks.fill(x, 0, 0, -1, -1, -1, -1, -1, -1, -1, -1, -1, -1, 1);
        e.outside(x, "hour 150 is none", x.source(0, 150, 0), 5);
        e.insideFraction(x, "by hour 149 any may have begun it", x.source(0, 149, 0), 1, 11);
        e.insideFraction(x, "by hour 100, too", x.source(0, 100, 0), 1, 11);
        e.outsideFraction(x, "by hour 99 it was not the first", x.source(0, 99, 0), 0, 1);
    }

    private void seedsOfBoth() {
        e.sentence(25, "RED SEEDS take RED in hour 0");
        TellFirst x = Checks.made("person a;person b stubborn;person c;");
        inside(x, 7, 0, 0, 3, 0);
        e.inside(x, "a stubborn seed's hour", x.lead(2, 0, 1, 1), 0);
        e.outside(x, "one that is none", x.lead(2, 0, 0, 1), 8);
        outside(x, 0, 0, 0, 0, 0);
        e.sentence(25, "if they have not taken or made up their mind by then (who is both, in hour 0: RED)");
        inside(x, 0, 7, 0, 0, 3);
        inside(x, 0, 7, 20, 0, 3);
        outside(x, 7, 7, 0, 3, 0);
        outside(x, 3, 7, 0, 2, 1);
        outside(x, 3, 7, 20, 2, 1);
    }

    /** b is told in hour 2, makes up its mind then, and takes in hour 5. */
    private void mindsMadeUp() {
        e.sentence(25, "BLUE SEEDS take BLUE in their hour (0 to 20), if they have not taken or made up their mind by "
            + "then");
        TellFirst x = Checks.made("person a;person b late 3;person c;tie a to b odds 16 hours 2;tie b to c odds 16;");
        inside(x, 1, 2, 0, 1, 2);
        inside(x, 1, 2, 1, 1, 2);
        inside(x, 1, 2, 2, 1, 2);
        outside(x, 1, 2, 3, 3, 0);
        outside(x, 1, 2, 5, 3, 0);
        // c is told in hour 6.
        inside(x, 1, 4, 6, 2, 1);
        outside(x, 1, 4, 7, 3, 0);
    }

    private void hoursOfTies() {
        e.sentence(25, "Who took in an hour tells by each OPEN TIE that goes from it so many HOURS later");
        for (int hours = 1; hours <= 5; hours++) {
            TellFirst x = Checks.made("person a;person b;tie a to b odds 16 hours " + hours + ";");
            inside(x, 1, 2, hours, 1, 1);
            outside(x, 1, 2, hours + 1, 2, 0);
            e.inside(x, "its hour", x.lead(1, 1, 1, 1), hours);
            e.outside(x, "by a tie that is not open", x.lead(1, 0, 1, 1), 8);
        }
        TellFirst x = Checks.made("person a;person b;tie a to b odds 0;");
        outside(x, 1, 0, 0, 1, 0);
        x = Checks.made("person a;person b;tie a to b odds 16;");
        inside(x, 1, 0, 0, 2, 0);
        inside(x, 0, 1, 20, 0, 2);
        outside(x, 2, 0, 0, 1, 0);
    }

    /** c is told in hours 1, 3 and 5. */
    private void needsByAnHour() {
        e.sentence(25, "was told by as many TIES as it NEEDS, or more, by this hour");
        String ties = "tie p to c odds 16;tie q to c odds 16 hours 3;tie r to c odds 16 hours 5;";
        int[] hours = {0, 1, 3, 5};
        for (int needs = 1; needs <= 3; needs++) {
            TellFirst x = Checks.made("person p;person q;person r;person c needs " + needs + ";" + ties);
            e.inside(x, needs + " needed, its hour", x.lead(7, 7, 3, 1), hours[needs]);
            inside(x, 7, 8, hours[needs], 3, 1);
            outside(x, 7, 8, hours[needs] + 1, 4, 0);
            int fewer = (1 << needs - 1) - 1;
            e.outside(x, needs + " needed, one less tells", x.lead(7, fewer, 3, 1), 8);
            e.outside(x, needs + " needed, one seed less", x.lead(fewer, 7, 3, 1), 8);
        }
        e.sentence(25, "In each hour, behind the SEEDS, each who is not STUBBORN, has not taken nor made up its mind");
        TellFirst x = Checks.made("person a;person b;tie a to b odds 16;");
        inside(x, 1, 0, 0, 2, 0);
        inside(x, 1, 2, 1, 1, 1);
        outside(x, 1, 2, 2, 2, 0);
        x.refuse(1, true);
        outside(x, 1, 0, 0, 1, 0);
        inside(x, 1, 2, 20, 1, 1);
    }

    private void likeIsRed() {
        e.sentence(25, "it makes up its mind for what more of these told (if like, RED)");
        String people = "person p;person q;person r;person s;person c needs ";
        String ties = ";tie p to c odds 16;tie q to c odds 16;tie r to c odds 16;tie s to c odds 16;";
        TellFirst x = Checks.made(people + 1 + ties);
        inside(x, 3, 12, 0, 3, 2);
        outside(x, 1, 6, 0, 1, 3);
        outside(x, 1, 14, 0, 1, 4);
        inside(x, 7, 8, 0, 4, 1);
        inside(x, 1, 2, 0, 2, 1);
        // Two blue tell one hour behind one red: it has made up its mind; if it needs 2, all three count.
        inside(x, 1, 6, 1, 2, 2);
        x = Checks.made(people + 2 + ties);
        outside(x, 1, 6, 1, 1, 3);
        inside(x, 1, 2, 1, 2, 1);
    }

    private void late() {
        e.sentence(25, "and takes that LATE hours later (0: in this hour)");
        for (int late = 0; late <= 5; late++) {
            TellFirst x = Checks.made("person a;person b late " + late + ";person c;tie a to b odds 16 hours 2;"
                + "tie b to c odds 16;");
            e.inside(x, "it takes", x.lead(1, 3, 1, 1), 2 + late);
            e.inside(x, "who is behind it", x.lead(1, 3, 2, 1), 3 + late);
            inside(x, 1, 4, 3 + late, 2, 1);
            outside(x, 1, 4, 4 + late, 3, 0);
        }
    }

    private void means() {
        e.sentence(25, "The mean of how many take each: a FRACTION");
        TellFirst x = Checks.made("person a;person b;person c;tie a to c odds 8;tie b to c odds 8;");
        // c: RED if a's tie is open, BLUE if b's alone.
        e.insideFraction(x, "red", x.fight(1, 2, 0, 0), 3, 2);
        e.insideFraction(x, "blue", x.fight(1, 2, 0, 1), 5, 4);
        e.outsideFraction(x, "no blue", x.fight(1, 0, 0, 1), 0, 1);
        e.outsideFraction(x, "no red", x.fight(0, 2, 0, 0), 0, 1);
    }

    private void answers() {
        e.sentence(26, "ANSWER: the one BLUE SEED (in an hour) by which the mean of BLUE is greatest; of several the "
            + "lesser");
        TellFirst x = Checks.made("person a;person b;person c;person d;");
        e.insideFraction(x, "all but a alike", x.answer(1, 0), 1, 1, 1);
        x = Checks.made("person a;person b;person c;person d;tie c to d odds 1;");
        e.outsideFraction(x, "c by a sixteenth", x.answer(1, 0), 2, 17, 16);
        e.insideFraction(x, "all are red: 0 with each", x.answer(15, 0), 0, 0, 1);
        x = Checks.made("person a;person b;person c;tie a to b odds 16 hours 3;tie b to c odds 16;");
        e.insideFraction(x, "b in hour 3", x.answer(1, 3), 1, 2, 1);
        e.outsideFraction(x, "b in hour 4 is red", x.answer(1, 4), 2, 1, 1);
        e.outsideFraction(x, "all are red by hour 5", x.answer(1, 5), 0, 0, 1);
        e.sentence(26, "ANSWER to RED SEEDS in an hour; the FRACTION is the mean of BLUE (2; 5; 8: no PEOPLE)");
        e.insideFraction(x, "hour 20", x.answer(0, 20), 0, 3, 1);
        e.insideFraction(x, "hour 0", x.answer(7, 0), 0, 0, 1);
        e.outside(x, "hour -1", x.answer(1, -1), 5);
        e.outside(x, "hour 21", x.answer(1, 21), 5);
        e.outside(x, "red 8", x.answer(8, 0), 2);
        e.outside(x, "red -1", x.answer(-1, 0), 2);
        e.outside(x, "2 ahead of 5", x.answer(8, 21), 2);
        TellFirst none = new TellFirst();
        e.outside(none, "no people", none.answer(0, 20), 8);
        e.outside(none, "5 ahead of 8", none.answer(0, 21), 5);
        e.outside(none, "2 ahead of 8", none.answer(1, 20), 2);
    }

    /** b is told in hour 5, c in 15, d in 25; from d it goes to four others. */
    private void latestHour() {
        e.sentence(27, "LATEST: the last hour (0 to 20) in which one BLUE SEED");
        TellFirst x = Checks.made("person a;person b late 5;person c late 5;person d;person e;person f;person g;person h;"
            + "tie a to b odds 16 hours 5;tie b to c odds 16 hours 5;tie c to d odds 16 hours 5;"
            + "tie d to e odds 16;tie d to f odds 16;tie d to g odds 16;tie d to h odds 16;");
        e.inside(x, "d, up to the last hour", x.latest(1, 3), 20);
        e.inside(x, "c", x.latest(1, 2), 15);
        e.insideFraction(x, "c in hour 15", x.fight(1, 4, 15, 0), 2, 1);
        e.outsideFraction(x, "c in hour 16", x.fight(1, 4, 16, 0), 8, 1);
        e.inside(x, "b", x.latest(1, 1), 5);
        e.outside(x, "e", x.latest(1, 4), 9);
        x = Checks.made("person a;person b;person c;tie a to c odds 16 hours 2;tie b to c odds 16;");
        e.inside(x, "in hour 0 alone", x.latest(1, 1), 0);
        x = Checks.made("person a;person b;person c;tie a to c odds 16;tie b to c odds 16;");
        e.outside(x, "too late in hour 0", x.latest(1, 1), 9);
        e.sentence(27, "LATEST of one BLUE SEED against RED SEEDS (2; 9: in none)");
        e.inside(x, "against none", x.latest(0, 2), 20);
        e.outside(x, "against all", x.latest(7, 2), 9);
        e.outside(x, "red 8", x.latest(8, 0), 2);
        e.outside(x, "red -1", x.latest(-1, 0), 2);
        e.outside(x, "person 3", x.latest(1, 3), 2);
        e.outside(x, "person -1", x.latest(1, -1), 2);
        e.outside(x, "person 32", x.latest(1, 32), 2);
        TellFirst none = new TellFirst();
        e.outside(none, "no people", none.latest(0, 0), 2);
    }

    private void atMostHalf() {
        e.sentence(27, "still brings the mean of RED to at most half of what it is without BLUE");
        TellFirst x = Checks.made("person a;person b;tie a to b odds 16;");
        e.inside(x, "1 of 2", x.latest(1, 1), 1);
        x = Checks.made("person a;person b;tie a to b odds 15;");
        e.outside(x, "16 of 31", x.latest(1, 1), 9);
        x = Checks.made("person a;person b;person c;tie a to b odds 15;tie b to c odds 2;");
        e.inside(x, "256 of 526", x.latest(1, 1), 1);
        x = Checks.made("person a;person b;person c;tie a to b odds 15;tie b to c odds 1;");
        e.outside(x, "256 of 511", x.latest(1, 1), 9);
        x = Checks.made("person a;person b;person c;person d;tie a to b odds 16;tie a to c odds 8;tie c to d odds 16;");
        e.outside(x, "2 of 3", x.latest(1, 1), 9);
        // z, if it were BLUE as well, would take b and c from RED: then 1 would be too much.
        x = Checks.made("person z;person a;person b;person c;tie z to b odds 16;tie a to b odds 16 hours 2;"
            + "tie b to c odds 16;");
        e.inside(x, "1 of 3", x.latest(2, 2), 2);
    }

    private void stopsSoMany() {
        e.sentence(28, "STOPS: of all sets of at most so many TIES (0 to 3) that which, CLOSED, makes the SPREAD of "
            + "SEEDS least");
        TellFirst x = Checks.made(Edges.people(5) + Edges.star(4, 16));
        e.insideFraction(x, "0", x.stops(1, 0), 0, 5, 1);
        e.insideFraction(x, "1", x.stops(1, 1), 1, 4, 1);
        e.insideFraction(x, "2", x.stops(1, 2), 3, 3, 1);
        e.insideFraction(x, "3", x.stops(1, 3), 7, 2, 1);
        e.outside(x, "4", x.stops(1, 4), 5);
        e.outside(x, "-1", x.stops(1, -1), 5);
        e.sentence(28, "STOPS: the set of TIES; the FRACTION is the SPREAD then (2; 5)");
        e.insideFraction(x, "no seeds", x.stops(0, 3), 0, 0, 1);
        e.insideFraction(x, "all seeds", x.stops(31, 3), 0, 5, 1);
        e.outside(x, "seeds 32", x.stops(32, 0), 2);
        e.outside(x, "seeds -1", x.stops(-1, 0), 2);
        e.outside(x, "2 ahead of 5", x.stops(32, 4), 2);
        x = Checks.made("person a;");
        e.insideFraction(x, "no ties", x.stops(1, 3), 0, 1, 1);
        x = Checks.made(Edges.people(11) + Edges.chain(10, "16"));
        e.insideFraction(x, "the last of ten", x.stops(512, 1), 512, 1, 1);
        e.outsideIs("ties stay open behind it", x.reached(512, 1023), 512 | 1024);
    }

    private void stopsOfSeveral() {
        e.sentence(28, "of several the one of fewest, of several the least set (as TIES: 1 for TIE 0, 2 for 1 ..)");
        String people = "person a;person b;person c;";
        TellFirst x = Checks.made(people + "tie b to c odds 16;tie a to b odds 16;");
        e.insideFraction(x, "one as good as two", x.stops(1, 3), 2, 1, 1);
        x = Checks.made(people + "tie b to c odds 16;tie a to b odds 16;tie a to c odds 1;");
        e.outsideFraction(x, "two by a sixteenth", x.stops(1, 3), 6, 1, 1);
        x = Checks.made(people + "tie a to b odds 8;tie a to c odds 8;");
        e.insideFraction(x, "the least of two", x.stops(1, 1), 1, 3, 2);
        x = Checks.made(people + "tie a to b odds 8;tie a to c odds 9;");
        e.outsideFraction(x, "the other by a sixteenth", x.stops(1, 1), 2, 3, 2);
        x = Checks.made(people + "tie a to b odds 0;");
        e.insideFraction(x, "none as good as one", x.stops(1, 1), 0, 1, 1);
        x = Checks.made(people + "tie a to b odds 1;");
        e.outsideFraction(x, "one by a sixteenth", x.stops(1, 1), 1, 1, 1);
    }
}
