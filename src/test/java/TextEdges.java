/** Boundary cases of promises 10, 11, 13 and 14: the text of a net, and its faults. */
final class TextEdges {
    private static final String AB = "person a;person b;";

    private final Edges e;

    TextEdges(Edges edges) {
        e = edges;
    }

    void all() {
        tokens();
        blanks();
        signs();
        parts();
        traits();
        names();
        people();
        ties();
        valleys();
        firstFault();
        faultOne();
        faultTwo();
        faultThree();
        faultFour();
        faultFive();
        faultSix();
    }

    private void tokens() {
        e.sentence(10, "TOKENS, as long as they go");
        TellFirst x = e.sound("person ab in2needs3;", 1);
        e.insideIs("in2", x.person(0, 0), 2);
        e.insideIs("needs3", x.person(0, 1), 3);
        e.sound("person persona;", 1);
        e.faulty("^personab;", 2);
        e.faulty("person a in ^1234;", 1);
        e.faulty("person a ^inn 1;", 2);
        e.faulty("person a costs 12 ^3;", 2);
        e.faulty("person a costs ^123;", 4);
    }

    private void blanks() {
        e.sentence(10, "between them blanks (10, 32)");
        e.sound("\n\nperson\na\n;\n \n", 1);
        e.sound("   person   a   ;   ", 1);
        e.sound("person a;person b;", 2);
        for (int sign : new int[] {0, 9, 11, 13, 31, 33, 127, 128, 160, 255}) {
            e.faulty("person^" + (char) sign + "a;", 1);
            e.faulty("person a;^" + (char) sign, 1);
        }
    }

    private void signs() {
        e.sentence(10, "WORDS (small letters)");
        e.sound("person az;person za;", 2);
        for (char sign : new char[] {'`', '{', 'A', 'Z', (char) ('a' + 128), (char) ('z' + 128)}) {
            e.faulty("person ^" + sign + ";", 1);
            e.faulty("person a^" + sign + ";", 1);
        }
        e.sentence(10, "NUMBERS (1 to 3 digits)");
        e.sound("person a costs 9;", 1);
        e.sound("person a costs 099;", 1);
        e.insideIs("099 is 99", e.sound("person a costs 099;", 1).person(0, 4), 99);
        e.insideIs("000 is 0", e.sound("person a costs 000;", 1).person(0, 4), 0);
        e.faulty("person a costs ^0099;", 1);
        e.faulty("person a costs ^/;", 1);
        e.faulty("person a costs ^:;", 1);
        e.faulty("person a costs ^-1;", 1);
        e.faulty("person a costs ^" + (char) ('0' + 128) + ";", 1);
        e.sentence(10, "the SIGN ;");
        e.sound("person a;", 1);
        e.faulty("person a^:", 1);
        e.faulty("person a^<", 1);
        e.faulty("person a^" + (char) (';' + 128), 1);
    }

    private void parts() {
        e.sentence(10, "NET: {PART}");
        e.sound("", 0);
        e.sound(" \n", 0);
        e.sound("valley 0 most 1;", 0);
        e.sound("person a;", 1);
        e.faulty("^;", 2);
        e.faulty("^a;", 2);
        e.faulty("^7;", 2);
        e.faulty("person a;^;", 2);
        e.sentence(10, "PART: person NAME {TRAIT} ;");
        e.sound("person a;", 1);
        e.faulty("person^", 2);
        e.faulty("person ^;", 2);
        e.faulty("person a^", 2);
        e.faulty("person a ^b;", 2);
        e.faulty("person a ^1;", 2);
        e.faulty("person a ^person b;", 2);
        e.sentence(10, "or tie NAME to NAME odds NUMBER {SPEED} ;");
        e.sound(AB + "tie a to b odds 1;", 2);
        e.faulty(AB + "tie^", 2);
        e.faulty(AB + "tie ^to b odds 1;", 2);
        e.faulty(AB + "tie a ^b odds 1;", 2);
        e.faulty(AB + "tie a to ^odds 1;", 2);
        e.faulty(AB + "tie a to b ^1;", 2);
        e.faulty(AB + "tie a to b odds^", 2);
        e.faulty(AB + "tie a to b odds ^;", 2);
        e.faulty(AB + "tie a to b odds 1^", 2);
        e.faulty(AB + "tie a to b odds 1 ^in 1;", 2);
        e.sentence(10, "or valley NUMBER most NUMBER ;");
        e.sound("valley 1 most 2;", 0);
        e.faulty("valley^", 2);
        e.faulty("valley ^most 2;", 2);
        e.faulty("valley 1 ^2;", 2);
        e.faulty("valley 1 most ^;", 2);
        e.faulty("valley 1 most 2^", 2);
        e.faulty("valley 1 most 2 ^in 1;", 2);
    }

    private void traits() {
        e.sentence(10, "TRAIT: in NUMBER, or needs NUMBER, or late NUMBER, or stubborn, or costs NUMBER");
        for (String trait : new String[] {"in", "needs", "late", "costs"}) {
            e.sound("person a " + trait + " 1;", 1);
            e.faulty("person a " + trait + "^;", 2);
            e.faulty("person a " + trait + " ^b;", 2);
            e.faulty("person a " + trait + " 1 ^1;", 2);
        }
        e.sound("person a stubborn;", 1);
        e.faulty("person a stubborn ^1;", 2);
        e.faulty("person a ^hours 1;", 2);
        e.faulty("person a ^back;", 2);
        e.sentence(10, "SPEED: hours NUMBER, or back");
        e.sound(AB + "tie a to b odds 1 hours 2;", 2);
        e.sound(AB + "tie a to b odds 1 back;", 2);
        e.faulty(AB + "tie a to b odds 1 hours^;", 2);
        e.faulty(AB + "tie a to b odds 1 back ^1;", 2);
        e.faulty(AB + "tie a to b odds 1 ^late 1;", 2);
        e.sentence(10, "({ } any number of times.)");
        e.sound("person a;", 1);
        e.sound("person a costs 1 stubborn late 1 needs 1 in 1;", 1);
        e.faulty("person a costs 1 stubborn late 1 needs 1 in 1 ^in 1;", 5);
        e.sound(AB + "tie a to b odds 1;", 2);
        e.sound(AB + "tie a to b odds 1 back hours 2;", 2);
        e.faulty(AB + "tie a to b odds 1 back hours 2 ^back;", 5);
    }

    private void names() {
        e.sentence(10, "NAME: a WORD of 1 to 8 letters");
        e.sound("person z;", 1);
        e.sound("person abcdefgh;", 1);
        e.faulty("person ^abcdefghi;", 2);
        e.faulty("person ^;", 2);
        e.faulty("person abcdefgh;tie ^abcdefghi to abcdefgh odds 1;", 2);
        e.sound("person abcdefgh;person abcdefgi;tie abcdefgh to abcdefgi odds 1;", 2);
        e.faulty("person a ^abcdefghijklmnopqrstuvwxyz;", 2);
        e.sound("person q;person aq;person aaq;person zzzzzzzz;person zzzzzzz;person azzzzzzz;", 6);
        e.sentence(10, "that is none of person, tie, to, odds, valley, most, in, needs, late, stubborn, costs, hours, "
            + "back");
        for (String word : new String[] {"person", "tie", "to", "odds", "valley", "most", "in", "needs", "late",
            "stubborn", "costs", "hours", "back"}) {
            e.faulty("person ^" + word + ";", 2);
            e.faulty("person a;tie ^" + word + " to a odds 1;", 2);
            e.faulty("person a;tie a to ^" + word + " odds 1;", 2);
            String shorter = word.substring(0, word.length() - 1);
            String longer = word.length() < 8 ? word + "s" : "s" + shorter;
            e.sound("person " + shorter + ";person " + longer + ";tie " + longer + " to " + shorter + " odds 1;", 2);
        }
    }

    private void people() {
        e.sentence(10, "PEOPLE, at most 12, numbered as they stand");
        TellFirst x = e.sound(Edges.people(11) + "person l in 3;", 12);
        e.insideIs("the last is number 11", x.person(11, 0), 3);
        e.insideIs("the one ahead is not in it", x.person(10, 0), 0);
        e.faulty(Edges.people(12) + "person ^m;", 6);
        trait("in a VALLEY (in: 0 to 3; 0 without)", "in", 0, 0, 3, 0);
        trait("NEEDS (1 to 3; 1 without)", "needs", 1, 1, 3, 1);
        trait("LATE (0 to 5 hours; 0 without)", "late", 2, 0, 5, 0);
        trait("COSTS (0 to 99; 1 without)", "costs", 4, 0, 99, 1);
        e.sentence(13, "STUBBORN or not");
        e.insideIs("stubborn", e.sound("person a stubborn;", 1).person(0, 3), 1);
        e.outsideIs("not", e.sound("person a;", 1).person(0, 3), 0);
    }

    private void trait(String words, String trait, int what, int low, int high, int without) {
        e.sentence(13, words);
        String head = "person a;person b " + trait + " ";
        e.insideIs("the least", e.sound(head + low + ";", 2).person(1, what), low);
        e.insideIs("the greatest", e.sound(head + high + ";", 2).person(1, what), high);
        e.insideIs("without", e.sound(head + high + ";", 2).person(0, what), without);
        e.faulty(head + "^" + (high + 1) + ";", 4);
        e.faulty(head + "^999;", 4);
        e.faulty(low > 0 ? head + "^" + (low - 1) + ";" : head + "^-1;", low > 0 ? 4 : 1);
    }

    private void ties() {
        e.sentence(10, "TIES, at most 10, numbered as they stand");
        String nine = Edges.people(12) + Edges.star(9, 1);
        TellFirst x = e.sound(nine + "tie l to a odds 7;", 12);
        e.insideIs("ties", x.many(1), 10);
        e.insideIs("the last is number 9", x.tie(9, 2), 7);
        e.faulty(nine + "tie l to a odds 7;^tie l to b odds 7;", 6);
        e.sentence(14, "from one to another one");
        e.insideIs("from", e.sound(AB + "tie b to a odds 1;", 2).tie(0, 0), 1);
        e.insideIs("to", e.sound(AB + "tie b to a odds 1;", 2).tie(0, 1), 0);
        e.faulty(AB + "tie b to ^b odds 1;", 5);
        speed("ODDS so many sixteenths (0 to 16)", AB + "tie a to b odds ", 2, 0, 16);
        speed("HOURS (1 to 5; 1 without)", AB + "tie a to b odds 1 hours ", 3, 1, 5);
        e.insideIs("hours without", e.sound(AB + "tie a to b odds 9;", 2).tie(0, 3), 1);
        e.sentence(14, "back: a second TIE behind it, the other way round, alike");
        for (String speeds : new String[] {"hours 4 back", "back hours 4"}) {
            x = e.sound(AB + "tie b to a odds 9 " + speeds + ";", 2);
            int[][] want = {{1, 0, 9, 4}, {0, 1, 9, 4}};
            for (int what = 0; what < 4; what++) {
                e.insideIs("the first, " + what, x.tie(0, what), want[0][what]);
                e.insideIs("the second, " + what, x.tie(1, what), want[1][what]);
            }
        }
        x = e.sound(AB + "tie b to a odds 9;", 2);
        e.outside(x, "no second without", x.tie(1, 0), 2);
    }

    private void speed(String words, String head, int what, int low, int high) {
        e.sentence(14, words);
        e.insideIs("the least", e.sound(head + low + ";", 2).tie(0, what), low);
        e.insideIs("the greatest", e.sound(head + high + ";", 2).tie(0, what), high);
        e.faulty(head + "^" + (high + 1) + ";", 4);
        e.faulty(low > 0 ? head + "^" + (low - 1) + ";" : head + "^-1;", low > 0 ? 4 : 1);
    }

    private void valleys() {
        e.sentence(10, "valley: at most so many (0 to 12) of that VALLEY may be chosen (12 without)");
        String four = "person a in 3;person b in 3;person c in 3;person d in 3;";
        for (int most = 0; most <= 4; most++) {
            TellFirst x = e.sound(four + "valley 3 most " + most + ";", 4);
            e.insideIs("most " + most, Integer.bitCount(x.best(4, 999)), most);
            e.insideIs("most " + most, Integer.bitCount(x.greedy(4, 999)), most);
        }
        e.sound("valley 0 most 12;", 0);
        e.faulty("valley 0 most ^13;", 4);
        e.sound("valley 0 most 0;valley 1 most 0;valley 2 most 0;valley 3 most 0;", 0);
        e.faulty("valley ^4 most 0;", 4);
        e.outsideIs("of another one", e.sound(four + "valley 2 most 0;", 4).best(4, 999), 15);
        e.outsideIs("without", e.sound(four, 4).best(4, 999), 15);
        TellFirst x = e.sound("valley 3 most 1;" + four, 4);
        Checks.net(x, four);
        e.outsideIs("without, told in the net ahead", x.best(4, 999), 15);
    }

    private void firstFault() {
        e.sentence(11, "FAULTS, the first along the text (of one TOKEN the least kind)");
        e.sound("person a in 3;", 1);
        e.faulty("person a in ^4 in 4;#", 4);
        e.faulty("person a in 3 ^in 4;#", 5);
        e.faulty("person a in 3;^#person a;", 1);
        e.faulty("person a;person ^a in 4;", 3);
        // One token, two kinds: 1 and 2; 1 and 4; 2 and 6; 3 and 6; 5 and 6.
        e.faulty("^#", 1);
        e.faulty("person a in ^0004;", 1);
        e.faulty(Edges.people(12) + "person ^to;", 2);
        e.faulty(Edges.people(12) + "person ^l;", 3);
        e.faulty(AB + "tie a to b odds 1;tie b to a odds 1 ^back back;", 6);
        e.faulty(Edges.people(12) + Edges.star(8, 1) + "tie l to k odds 1 back ^back;", 5);
        e.faulty(Edges.people(12) + Edges.star(10, 1) + "^tie", 6);
    }

    private void faultOne() {
        e.sentence(11, "1 no TOKEN begins so (a NUMBER of 4 digits and more: at its first)");
        e.sound("person a costs 099;", 1);
        e.faulty("person a costs ^0990;", 1);
        e.faulty("person a costs ^" + "9".repeat(500) + ";", 1);
        e.faulty("^0000", 1);
        e.faulty("^.", 1);
        e.faulty("person a;^#", 1);
    }

    private void faultTwo() {
        e.sentence(11, "2 it can't stand there (the end: the text's length)");
        e.sound("person a;\n", 1);
        e.faulty("person a^", 2);
        e.faulty("person a \n ^", 2);
        e.faulty("person" + " ".repeat(594) + "^", 2);
        e.faulty("^to", 2);
        e.faulty("^000", 2);
        e.faulty("^abcdefghi", 2);
    }

    private void faultThree() {
        e.sentence(11, "3 a NAME of a person that is there already");
        e.sound("person a;person aa;person b;", 3);
        e.faulty("person a;person aa;person ^a;", 3);
        e.faulty("person a;person ^a", 3);
        e.sentence(11, "a NAME of a tie that is no person told ahead");
        e.sound("person a;person b;tie a to b odds 1;person c;tie c to a odds 1;", 3);
        e.faulty("person a;tie a to ^b odds 1;person b;", 3);
        e.faulty("person b;tie ^a to b odds 1;person a;", 3);
        e.faulty("person a;tie ^b to b odds 1;", 3);
    }

    private void faultFour() {
        e.sentence(11, "4 a NUMBER that can't be (of valley's first 0 to 3)");
        e.sound("valley 0 most 0;valley 3 most 12;", 0);
        e.faulty("valley ^4 most 0;", 4);
        e.faulty("valley 3 most ^13;", 4);
        e.faulty("valley ^999 most 13;", 4);
    }

    private void faultFive() {
        e.sentence(11, "5 a tie to the one it is from (at its second NAME)");
        e.sound(AB + "tie a to b odds 1;", 2);
        e.faulty(AB + "tie a to ^a odds 1;", 5);
        e.faulty("person a;tie a to ^a", 5);
        e.sentence(11, "a TRAIT or SPEED that its PART has already");
        e.sound("person a in 1 needs 1 late 1 stubborn costs 1;person b in 1 needs 1 late 1 stubborn costs 1;", 2);
        for (String trait : new String[] {"in 1", "needs 1", "late 1", "stubborn", "costs 1"}) {
            e.faulty("person a " + trait + " ^" + trait + ";", 5);
            String between = trait.equals("in 1") ? "late 2" : "in 2";
            e.faulty("person a " + trait + " " + between + " ^" + trait.split(" ")[0], 5);
        }
        String three = "person a;person b;person c;";
        e.sound(three + "tie a to b odds 1 hours 1 back;tie a to c odds 1 back hours 1;", 3);
        e.faulty(three + "tie a to b odds 1 hours 1 ^hours 1;", 5);
        e.faulty(three + "tie a to b odds 1 hours 1 back ^hours", 5);
        e.faulty(three + "tie a to b odds 1 back ^back;", 5);
        e.sentence(11, "a VALLEY told so already by valley (at the TRAIT's, SPEED's WORD; at the NUMBER)");
        e.sound("person a in 1;valley 1 most 1;valley 2 most 1;", 1);
        e.faulty("valley 1 most 1;valley ^1 most 1;", 5);
        e.faulty("valley 1 most 1;valley 2 most 1;valley ^01 most 13;", 5);
    }

    private void faultSix() {
        e.sentence(11, "6 a 13th person (at its NAME)");
        e.sound(Edges.people(12), 12);
        e.faulty(Edges.people(12) + "person ^m;", 6);
        e.faulty(Edges.people(12) + "person ^m in 9;", 6);
        e.sentence(11, "an 11th TIE (at the WORD tie, or back)");
        String eight = Edges.people(12) + Edges.star(8, 1);
        e.insideIs("ten with back", e.sound(eight + "tie k to l odds 1 back;", 12).many(1), 10);
        e.insideIs("ten without", e.sound(eight + "tie k to l odds 1;tie l to k odds 1;", 12).many(1), 10);
        e.faulty(eight + "tie k to l odds 1 back;^tie k to j odds 1;", 6);
        e.faulty(eight + "tie k to l odds 1;tie l to j odds 1 ^back;", 6);
        e.faulty(eight + "tie k to l odds 1;tie l to j odds 1 hours 2 ^back;", 6);
        e.sentence(11, "a TIE from the one to the other that there is already (at the second NAME; of back: at that "
            + "WORD)");
        e.sound(AB + "tie a to b odds 1;tie b to a odds 1;", 2);
        e.faulty(AB + "tie a to b odds 1;tie a to ^b odds 1;", 6);
        e.faulty(AB + "tie a to b odds 1 back;tie b to ^a odds 1;", 6);
        e.faulty(AB + "tie a to b odds 1;tie b to a odds 1 ^back;", 6);
    }
}
