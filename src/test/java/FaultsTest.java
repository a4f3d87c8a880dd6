import java.util.ArrayList;
import java.util.HashSet;
import java.util.List;
import java.util.Random;
import java.util.Set;
import java.util.regex.Matcher;
import java.util.regex.Pattern;

/** Promises 10 and 11: random texts, sound and spoilt, against a reader of another make. */
public final class FaultsTest {
    private static final Checks checks = new Checks("FaultsTest");
    private static final Pattern TOKEN = Pattern.compile("[a-z]+|[0-9]+|;");
    private static final Set<String> KEYS = Set.of("person", "tie", "to", "odds", "valley", "most", "in", "needs",
        "late", "stubborn", "costs", "hours", "back");

    /** A fault found by the reader of the test. */
    private static final class Found extends RuntimeException {
        private static final long serialVersionUID = 1L;
        final int kind;
        final int place;

        Found(int kind, int place) {
            super(null, null, false, false);
            this.kind = kind;
            this.place = place;
        }
    }

    private final String text;
    private int place;
    private String token;
    private final List<String> people = new ArrayList<>();
    private final List<String> ties = new ArrayList<>();
    private final Set<Integer> valleys = new HashSet<>();

    private FaultsTest(String text) {
        this.text = text;
    }

    public static void main(String[] args) {
        Random random = new Random(4711);
        int[] kinds = new int[7];
        for (int i = 0; i < 40000; i++) {
            String text = spoil(random, Plain.random(random, 12, 10).text + more(random));
            text = text.substring(0, Math.min(600, text.length()));
            TellFirst x = new TellFirst();
            int people = Checks.net(x, text);
            FaultsTest reader = new FaultsTest(text);
            int kind = 0;
            int at = -1;
            try {
                reader.read();
            } catch (Found found) {
                kind = found.kind;
                at = found.place;
            }
            kinds[kind]++;
            checks.due(x, text, people, kind == 0 ? reader.people.size() : -1, kind == 0 ? 0 : 10);
            checks.due("fault of " + text, x.fault(0), kind);
            checks.due("place in " + text, x.fault(1), at);
            checks.due("ties of " + text, x.many(1), kind == 0 ? reader.ties.size() : 0);
        }
        for (int kind = 0; kind < 7; kind++) {
            checks.due("texts of kind " + kind + ": " + kinds[kind], kinds[kind] > 100, true);
        }
        checks.end();
    }

    private static String more(Random random) {
        String[] parts = {"person zoe;", "person a;", "tie a to b odds 3;", "tie b to a odds 3 back;", "valley 1 most 3;",
            "tie c to d odds 9 back hours 2;", "person yan in 1 late 2;", "tie zoe to a odds 1;", "tie a to a odds 1;"};
        StringBuilder text = new StringBuilder();
        int many = random.nextInt(5);
        for (int i = 0; i < many; i++) {
            text.append(parts[random.nextInt(parts.length)]);
        }
        return text.toString();
    }

    private static String spoil(Random random, String sound) {
        String[] bits = {" ", ";", "a", "in", " in 2", " 7", "0", " needs ", " back", " hours 3", "\n", "A", "person ",
            " tie ", " costs 99", " stubborn", " late 5 ", "valley 2 most 1;", "-", (char) 200 + ""};
        String text = sound;
        int many = random.nextInt(3);
        for (int i = 0; i < many && !text.isEmpty(); i++) {
            int at = random.nextInt(text.length());
            int till = Math.min(text.length(), at + random.nextInt(3));
            String bit = random.nextInt(4) == 0 ? "" : bits[random.nextInt(bits.length)];
            text = text.substring(0, at) + bit + text.substring(till);
        }
        return random.nextInt(10) == 0 ? text.substring(0, random.nextInt(text.length() + 1)) : text;
    }

    private void next() {
        int from = token == null ? 0 : place + token.length();
        while (from < text.length() && " \n".indexOf(text.charAt(from)) >= 0) {
            from++;
        }
        place = from;
        token = "";
        if (place < text.length()) {
            Matcher matcher = TOKEN.matcher(text).region(place, text.length());
            if (!matcher.lookingAt() || Character.isDigit(text.charAt(place)) && matcher.group().length() > 3) {
                throw new Found(1, place);
            }
            token = matcher.group();
        }
    }

    private void must(boolean sound, int kind) {
        if (!sound) {
            throw new Found(kind, place);
        }
    }

    private void key(String want) {
        must(token.equals(want), 2);
        next();
    }

    private void mustBeName() {
        must(token.matches("[a-z]{1,8}") && !KEYS.contains(token), 2);
    }

    private void mustBeNumber(int low, int high) {
        must(token.matches("[0-9]+"), 2);
        must(Integer.parseInt(token) >= low && Integer.parseInt(token) <= high, 4);
    }

    private void read() {
        next();
        while (!token.isEmpty()) {
            if (token.equals("person")) {
                person();
            } else if (token.equals("tie")) {
                tie();
            } else {
                key("valley");
                mustBeNumber(0, 3);
                must(valleys.add(Integer.parseInt(token)), 5);
                next();
                key("most");
                mustBeNumber(0, 12);
                next();
            }
            key(";");
        }
    }

    private void person() {
        next();
        mustBeName();
        must(!people.contains(token), 3);
        must(people.size() < 12, 6);
        people.add(token);
        next();
        Set<String> had = new HashSet<>();
        while (Set.of("in", "needs", "late", "stubborn", "costs").contains(token)) {
            String trait = token;
            must(had.add(trait), 5);
            next();
            if (!trait.equals("stubborn")) {
                mustBeNumber(trait.equals("needs") ? 1 : 0,
                    trait.equals("costs") ? 99 : trait.equals("late") ? 5 : 3);
                next();
            }
        }
    }

    private void tie() {
        must(ties.size() < 10, 6);
        next();
        mustBeName();
        must(people.contains(token), 3);
        String a = token;
        next();
        key("to");
        mustBeName();
        must(people.contains(token), 3);
        String b = token;
        must(!a.equals(b), 5);
        must(!ties.contains(a + " " + b), 6);
        ties.add(a + " " + b);
        next();
        key("odds");
        mustBeNumber(0, 16);
        next();
        Set<String> had = new HashSet<>();
        while (token.equals("hours") || token.equals("back")) {
            must(had.add(token), 5);
            if (token.equals("back")) {
                must(ties.size() < 10 && !ties.contains(b + " " + a), 6);
                ties.add(b + " " + a);
            } else {
                next();
                mustBeNumber(1, 5);
            }
            next();
        }
    }
}
