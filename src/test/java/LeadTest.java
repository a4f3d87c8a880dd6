/** Promises 34 to 37: lead, check, lot, meter. */
public final class LeadTest {
    private static final Checks checks = new Checks("LeadTest");

    public static void main(String[] args) {
        leadStatus();
        movers();
        checking();
        draws();
        metering();
        checks.end();
    }

    private static TellFirst chain() {
        return Checks.made("person a;person b late 2;person c;tie a to b odds 8 hours 3;tie b to c odds 8;");
    }

    private static void leadStatus() {
        TellFirst x = chain();
        checks.due(x, "no such seeds", x.lead(8, 0, 0, 9), -1, 2);
        checks.due(x, "no such lot", x.lead(1, 4, 0, 9), -1, 2);
        checks.due(x, "no such person", x.lead(1, 0, 3, 9), -1, 2);
        checks.due(x, "person -1", x.lead(1, 0, -1, 0), -1, 2);
        checks.due(x, "what 2", x.lead(1, 0, 1, 2), -1, 5);
        checks.due(x, "what -1", x.lead(1, 0, 1, -1), -1, 5);
        checks.due(x, "a seed was not moved", x.lead(1, 3, 0, 0), -1, 8);
        checks.due(x, "a seed took in hour 0", x.lead(1, 3, 0, 1), 0, 0);
        checks.due(x, "did not take", x.lead(1, 2, 1, 0), -1, 8);
        checks.due(x, "did not take", x.lead(1, 2, 1, 1), -1, 8);
        checks.due(x, "b's tie", x.lead(1, 3, 1, 0), 0, 0);
        checks.due(x, "b's hour", x.lead(1, 3, 1, 1), 5, 0);
        checks.due(x, "c's tie", x.lead(1, 3, 2, 0), 1, 0);
        checks.due(x, "c's hour", x.lead(1, 3, 2, 1), 6, 0);
    }

    /** d needs 2 and is late: what told it behind its mind doesn't count. */
    private static void movers() {
        TellFirst x = Checks.made("person a;person b;person c;person d needs 2 late 4;tie c to d odds 8 hours 5;"
            + "tie b to d odds 8 hours 3;tie a to d odds 8 hours 3;");
        checks.due(x, "of several that told last the lesser", x.lead(7, 7, 3, 0), 1, 0);
        checks.due(x, "its hour", x.lead(7, 7, 3, 1), 7, 0);
        checks.due(x, "the last of two", x.lead(7, 3, 3, 0), 0, 0);
        checks.due(x, "its hour", x.lead(7, 3, 3, 1), 9, 0);
        checks.due(x, "one is too few", x.lead(7, 4, 3, 0), -1, 8);
        checks.due(x, "one that is no seed tells nothing", x.lead(1, 7, 3, 1), -1, 8);
        checks.due(x, "of c and a the one that told last", x.lead(5, 7, 3, 0), 0, 0);
        x.refuse(3, true);
        checks.due(x, "a stubborn one", x.lead(7, 7, 3, 1), -1, 8);
    }

    private static void checking() {
        TellFirst x = chain();
        checks.due(x, "no tray", x.check(8, 9, 4), -1, 1);
        checks.due(x, "no such seeds", x.check(8, 0, 0), -1, 2);
        checks.due(x, "no such lot", x.check(1, 4, 0), -1, 2);
        checks.due(x, "missing", x.check(1, 3, 0), -1, 3);
        Checks.fill(x, 0, 2, 0, 5);
        checks.due(x, "too few", x.check(1, 3, 0), -1, 4);
        Checks.fill(x, 0, 2, 0, 5, 6, 99);
        checks.due(x, "all do", x.check(1, 3, 0), -1, 0);
        checks.due(x, "c does not", x.check(1, 1, 0), 2, 0);
        checks.due(x, "b does not", x.check(1, 2, 0), 1, 0);
        checks.due(x, "a does not", x.check(0, 3, 0), 0, 0);
        Checks.fill(x, 0, 3, 0, 5, -1);
        checks.due(x, "none of c", x.check(1, 1, 0), -1, 0);
        Checks.fill(x, 0, 3, 0, 5, 1L << 32 | 6);
        checks.due(x, "a long one", x.check(1, 3, 0), 2, 0);
        Checks.fill(x, 0, 3, 0, -2, -1);
        checks.due(x, "-2 is not none", x.check(1, 0, 0), 1, 0);
        TellFirst none = new TellFirst();
        none.tray(2, 0, 0);
        checks.due(none, "none to check", none.check(0, 0, 2), -1, 0);
    }

    private static void draws() {
        TellFirst x = Checks.made("person a;person b;tie a to b odds 8 back;");
        checks.due(x, "lot(-1)", x.lot(-1), -1, 5);
        checks.due(x, "lot(10000)", x.lot(10000), -1, 5);
        for (int k = 0; k < 10000; k += 101) {
            int want = 0;
            for (int t = 0; t < 2; t++) {
                long draw = (k * 40503L + t * 9973L + 1299709L) * 69069L >> 11 & 15;
                want |= draw < 8 ? 1 << t : 0;
            }
            checks.due(x, "lot " + k, x.lot(k), want, 0);
        }
        checks.due("lot 9999 can be", x.lot(9999) >= 0, true);
        x = Checks.made("person a;person b;tie a to b odds 16;tie b to a odds 0;");
        for (int k = 0; k < 200; k++) {
            checks.due(x, "sure ones", x.lot(k), 1, 0);
        }
    }

    private static void metering() {
        TellFirst x = Checks.made("person a;person b;person c;tie a to b odds 16;tie b to c odds 16;");
        checks.due(x, "no such seeds", x.meter(8, 501), -1, 2);
        checks.due(x, "n 0", x.meter(1, 0), -1, 5);
        checks.due(x, "n 501", x.meter(1, 501), -1, 5);
        checks.due(x, "n 1", x.meter(1, 1), 1, 0);
        checks.due(x, "n 1 of c", x.meter(4, 1), 0, 0);
        checks.due(x, "all", x.meter(1, 500), 500, 0);
        checks.due(x, "b's", x.meter(2, 500), 333, 0);
        checks.due(x, "c's", x.meter(4, 500), 166, 0);
        checks.due(x, "none's", x.meter(0, 500), 0, 0);
        x.refuse(1, true);
        checks.due(x, "a's, b says no", x.meter(1, 6), 2, 0);
        checks.due(x, "b's, b says no", x.meter(2, 6), 4, 0);
        x = Checks.made("person a;");
        checks.due(x, "one person", x.meter(1, 7), 7, 0);
        TellFirst none = new TellFirst();
        checks.due(none, "no people", none.meter(0, 1), -1, 8);
        checks.due(none, "no people, no number", none.meter(0, 0), -1, 5);
        checks.due(none, "no people, no set", none.meter(1, 0), -1, 2);
    }
}
