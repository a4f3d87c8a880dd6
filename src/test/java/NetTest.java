/** Promises 9 to 15: feed, net, fault, many, person, tie, refuse. */
public final class NetTest {
    private static final Checks checks = new Checks("NetTest");

    public static void main(String[] args) {
        feeding();
        tapeAndNumber();
        whatIsRead();
        asking();
        refusing();
        faults();
        nearNames();
        limits();
        faultsKeepTheOld();
        checks.end();
    }

    private static void feeding() {
        TellFirst x = new TellFirst();
        for (int i = 1; i <= 30; i++) {
            checks.due("feed " + i, x.feed(-1, -1, -1, -1, -1), 20 * i);
        }
        checks.due("feed 31", x.feed(0, 0, 0, 0, 0), -1);
        checks.due("feed 32", x.feed(0, 0, 0, 0, 0), -1);
        checks.due(x, "600 bytes 255", x.net(600), -1, 10);
        checks.due("fault", x.fault(0), 1);
        checks.due("place", x.fault(1), 0);
        checks.due("the tape is empty", x.feed(0, 0, 0, 0, 0), 20);
    }

    private static void tapeAndNumber() {
        TellFirst x = new TellFirst();
        checks.due(x, "net(0) of nothing", x.net(0), 0, 0);
        checks.due("no fault", x.fault(0), 0);
        checks.due("no place", x.fault(1), -1);
        Checks.feed(x, Checks.bytes("person a; person b; "));
        checks.due(x, "net(-1)", x.net(-1), -1, 5);
        checks.due(x, "net(21)", x.net(21), -1, 5);
        checks.due(x, "net(9)", x.net(9), 1, 0);
        checks.due(x, "the rest is gone", x.net(1), -1, 5);
        checks.due("fault is of the net that was taken", x.fault(0), 0);
        checks.due("fault(2)", x.fault(2), -1);
        checks.due("fault(-1)", x.fault(-1), -1);
        String full = "person a;" + " ".repeat(591);
        checks.due(x, "600 bytes", Checks.net(x, full), 1, 0);
    }

    private static void whatIsRead() {
        TellFirst x = Checks.made("person a;person bb in 3 needs 2 late 5 stubborn costs 99;\n"
            + "person abcdefgh costs 0 stubborn late 0 needs 3 in 0;valley 3 most 0;"
            + "tie a to bb odds 0;tie bb to abcdefgh odds 16 back hours 5;tie abcdefgh to a odds 007 hours 2 back ;");
        int[][] people = {{0, 1, 0, 0, 1}, {3, 2, 5, 1, 99}, {0, 3, 0, 1, 0}};
        int[][] ties = {{0, 1, 0, 1}, {1, 2, 16, 5}, {2, 1, 16, 5}, {2, 0, 7, 2}, {0, 2, 7, 2}};
        checks.due(x, "people", x.many(0), 3, 0);
        checks.due(x, "ties", x.many(1), 5, 0);
        for (int p = 0; p < people.length; p++) {
            for (int w = 0; w < 5; w++) {
                checks.due(x, "person " + p + " " + w, x.person(p, w), people[p][w], 0);
            }
        }
        for (int t = 0; t < ties.length; t++) {
            for (int w = 0; w < 4; w++) {
                checks.due(x, "tie " + t + " " + w, x.tie(t, w), ties[t][w], 0);
            }
        }
        checks.due(x, "a lesser net", Checks.net(x, "person b in2needs3;person a2"), -1, 10);
        checks.due(x, "no blanks", Checks.net(x, "person b in2needs3;"), 1, 0);
        checks.due(x, "ties are gone", x.many(1), 0, 0);
        checks.due(x, "in2", x.person(0, 0), 2, 0);
        checks.due(x, "needs3", x.person(0, 1), 3, 0);
        checks.due(x, "stubborn no more", x.person(0, 3), 0, 0);
    }

    private static void asking() {
        TellFirst x = Checks.made("person a; person b; tie a to b odds 1;");
        checks.due(x, "many(-1)", x.many(-1), -1, 5);
        checks.due(x, "many(2)", x.many(2), -1, 5);
        checks.due(x, "person(2, 9)", x.person(2, 9), -1, 2);
        checks.due(x, "person(-1, 0)", x.person(-1, 0), -1, 2);
        checks.due(x, "person(1, 5)", x.person(1, 5), -1, 5);
        checks.due(x, "person(1, -1)", x.person(1, -1), -1, 5);
        checks.due(x, "tie(1, 9)", x.tie(1, 9), -1, 2);
        checks.due(x, "tie(-1, 0)", x.tie(-1, 0), -1, 2);
        checks.due(x, "tie(0, 4)", x.tie(0, 4), -1, 5);
        checks.due(x, "tie(0, -1)", x.tie(0, -1), -1, 5);
    }

    private static void refusing() {
        TellFirst x = Checks.made("person a stubborn; person b; tie a to b odds 16;");
        checks.due(x, "refuse(2)", x.refuse(2, true), false, 2);
        checks.due(x, "refuse(-1)", x.refuse(-1, false), false, 2);
        checks.due(x, "a", x.person(0, 3), 1, 0);
        checks.due(x, "refuse(0, true) again", x.refuse(0, true), true, 0);
        checks.due(x, "a", x.person(0, 3), 1, 0);
        checks.due(x, "refuse(0, false)", x.refuse(0, false), true, 0);
        checks.due(x, "a", x.person(0, 3), 0, 0);
        checks.due(x, "b", x.person(1, 3), 0, 0);
        checks.due(x, "b takes", x.reached(1, 1), 3, 0);
        checks.due(x, "refuse(1, true)", x.refuse(1, true), true, 0);
        checks.due(x, "b says no", x.reached(1, 1), 1, 0);
        checks.due(x, "b itself", x.reached(2, 1), 2, 0);
    }

    private static void fault(String text, int kind, int place) {
        TellFirst x = new TellFirst();
        checks.due(x, "net of " + text, Checks.net(x, text), -1, 10);
        checks.due("fault of " + text, x.fault(0), kind);
        checks.due("its place in " + text, x.fault(1), place);
    }

    private static void faults() {
        String ab = "person a;person b;";
        fault("#", 1, 0);
        fault("person A;", 1, 7);
        fault("person a\t;", 1, 8);
        fault("person " + (char) 233 + ";", 1, 7);
        fault("person a" + (char) 0, 1, 8);
        fault("person a in 0000;", 1, 12);
        fault("person a in 00009", 1, 12);
        fault("1234", 1, 0);
        fault("123", 2, 0);
        fault(";", 2, 0);
        fault("anna;", 2, 0);
        fault("person", 2, 6);
        fault("person  ", 2, 8);
        fault("person ;", 2, 7);
        fault("person 12;", 2, 7);
        fault("person abcdefghi;", 2, 7);
        fault("person a b;", 2, 9);
        fault("person a", 2, 8);
        fault("person a \n", 2, 10);
        fault("person a;;", 2, 9);
        fault("person a in;", 2, 11);
        fault("person a in b;", 2, 12);
        fault("person a stubborn 1;", 2, 18);
        fault("person a hours 1;", 2, 9);
        fault("person a back;", 2, 9);
        fault("person a odds 1;", 2, 9);
        for (String word : new String[] {"person", "tie", "to", "odds", "valley", "most", "in", "needs", "late",
            "stubborn", "costs", "hours", "back"}) {
            fault("person " + word + ";", 2, 7);
            fault("person a; tie " + word + " to a odds 1;", 2, 14);
        }
        fault("person a;person a;", 3, 16);
        fault("tie a to b odds 1;", 3, 4);
        fault("person a;tie a to b odds 1;", 3, 18);
        fault("person a;tie a to b odds 1;person b;", 3, 18);
        fault("person a in 4;", 4, 12);
        fault("person a needs 0;", 4, 15);
        fault("person a needs 4;", 4, 15);
        fault("person a late 6;", 4, 14);
        fault("person a costs 100;", 4, 15);
        fault(ab + "tie a to b odds 17;", 4, 34);
        fault(ab + "tie a to b odds 1 hours 0;", 4, 42);
        fault(ab + "tie a to b odds 1 hours 6;", 4, 42);
        fault("valley 4 most 1;", 4, 7);
        fault("valley 3 most 13;", 4, 14);
        fault("person a;tie a to a odds 1;", 5, 18);
        fault("person a in 1 in 9;", 5, 14);
        fault("person a needs 1 late 1 needs 1;", 5, 24);
        fault("person a late 1 late 1;", 5, 16);
        fault("person a stubborn stubborn;", 5, 18);
        fault("person a costs 1 costs 1;", 5, 17);
        fault(ab + "tie a to b odds 1 hours 1 hours 1;", 5, 44);
        fault(ab + "tie a to b odds 1 back back;", 5, 41);
        fault("valley 1 most 1;valley 1 most 1;", 5, 23);
        fault(ab + "tie a to b odds 1;tie a to b odds 1;", 6, 45);
        fault(ab + "tie b to a odds 1;tie a to b odds 1 back;", 6, 54);
        fault(ab + "tie a to b odds 1 back;tie b to a odds 1;", 6, 50);
        fault("person a abcdefghi", 2, 9);
        fault(ab + "tie a tie b odds 1;", 2, 24);
        fault(ab + "tie a odds b odds 1;", 2, 24);
        fault(ab + "tie a to b to 1;", 2, 29);
        fault(ab + "tie a to b valley 1;", 2, 29);
        fault("valley 1 valley 1;", 2, 9);
        fault("valley 1 in 1;", 2, 9);
        fault("to a;", 2, 0);
        fault("most 1 most 1;", 2, 0);
        tieFaults(ab);
    }

    /** Words that are near to others are names of their own. */
    private static void nearNames() {
        String[][] sets = {
            {"a", "aa", "aaa", "b", "ab", "ba", "z", "zz", "az", "abcdefgh", "abcdefgi", "zbcdefgh"},
            {"lerson", "lie", "lo", "adds", "galley", "cost", "an", "feeds", "rate", "atubborn", "hosts", "yours"},
            {"pack", "perso", "persons", "ties", "toto", "i", "bac", "backs", "need", "lat", "valle", "stubbor"}};
        for (String[] set : sets) {
            StringBuilder text = new StringBuilder();
            for (String name : set) {
                text.append("person ").append(name).append(";");
            }
            for (int i = 0; i < 10; i++) {
                text.append("tie ").append(set[i]).append(" to ").append(set[i + 1]).append(" odds 1;");
            }
            TellFirst x = Checks.made(text.toString());
            checks.due(x, "people of " + text, x.many(0), 12, 0);
            for (int i = 0; i < 10; i++) {
                checks.due(x, "from", x.tie(i, 0), i, 0);
                checks.due(x, "to", x.tie(i, 1), i + 1, 0);
            }
        }
    }

    private static void tieFaults(String ab) {
        fault(ab + "tie", 2, 21);
        fault(ab + "tie a b", 2, 24);
        fault(ab + "tie a to;", 2, 26);
        fault(ab + "tie a to b 3", 2, 29);
        fault(ab + "tie a to b odds ;", 2, 34);
        fault(ab + "tie a to b odds 3 in 1;", 2, 36);
        fault(ab + "tie a to b odds 3 hours;", 2, 41);
        fault(ab + "tie a to b odds 3", 2, 35);
        fault("valley", 2, 6);
        fault("valley a most 1;", 2, 7);
        fault("valley 1 2;", 2, 9);
        fault("valley 1 most;", 2, 13);
        fault("valley 1 most 1", 2, 15);
        fault("valley 1 most 1 2;", 2, 16);
    }

    private static String people(int many) {
        StringBuilder text = new StringBuilder();
        for (int i = 0; i < many; i++) {
            text.append("person ").append((char) ('a' + i)).append(';');
        }
        return text.toString();
    }

    private static String ties(int many) {
        StringBuilder text = new StringBuilder();
        for (int i = 0; i < many; i++) {
            text.append("tie a to ").append((char) ('b' + i)).append(" odds 1;");
        }
        return text.toString();
    }

    private static void limits() {
        checks.due("twelve", Checks.made(people(12)).many(0), 12);
        fault(people(13), 6, 9 * 12 + 7);
        fault(people(12) + "person a;", 3, 9 * 12 + 7);
        fault(people(12) + "person ;", 2, 9 * 12 + 7);
        String full = people(12) + ties(10);
        checks.due("ten", Checks.made(full).many(1), 10);
        fault(full + "tie c to d odds 1;", 6, full.length());
        fault(full + "tie", 6, full.length());
        String nine = people(12) + ties(9);
        checks.due("nine and one", Checks.made(nine + "tie c to d odds 1;").many(1), 10);
        fault(nine + "tie c to d odds 1 back;", 6, nine.length() + 18);
        String eight = people(12) + ties(8);
        checks.due("eight and two", Checks.made(eight + "tie c to d odds 1 back;").many(1), 10);
        fault(eight + "tie c to d odds 1 back back;", 5, eight.length() + 23);
    }

    private static void faultsKeepTheOld() {
        TellFirst x = Checks.made("person a;person b;tie a to b odds 3;");
        Checks.fill(x, 0, 0, 0, 1);
        x.run(0);
        checks.due(x, "a faulty net", Checks.net(x, "person c;person d;person e;person e;"), -1, 10);
        checks.due(x, "people stay", x.many(0), 2, 0);
        checks.due(x, "ties stay", x.tie(0, 2), 3, 0);
        checks.due(x, "runs stay", x.likeliest(0), 16, 0);
        checks.due(x, "weights stay", x.weight(1), 3, 0);
        checks.due(x, "the tape is empty", x.net(1), -1, 5);
        checks.due("fault stays behind 5", x.fault(0), 3);
        checks.due(x, "a sound net", Checks.net(x, "person a;person b;tie a to b odds 3;"), 2, 0);
        checks.due(x, "runs are gone", x.likeliest(0), -1, 8);
        checks.due(x, "no run 0", x.telling(0), -1, 2);
        checks.due(x, "run 0 anew", x.run(0), 0, 0);
    }
}
