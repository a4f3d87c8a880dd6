import java.util.ArrayList;
import java.util.HashSet;
import java.util.List;
import java.util.Random;
import java.util.Set;

/** Texts of nets: most of them right, some with a word, a number or a sign that is amiss. */
final class RandomText {
    private static final String[] NAMES = {"ann", "bob", "cat", "dan", "eve", "fay", "gus", "hal", "ivy", "joe", "kim",
        "leo", "abcdefgh"};
    private static final String[] STRAY = {"person", "tie", "to", "odds", "valley", "most", "in", "needs", "late",
        "stubborn", "costs", "hours", "back", ";", "zoe", "ann", "bob", "abcdefghi", "0", "1", "3", "4", "6", "13", "17",
        "100", "0100", "1000", "A", "-", "\t", "\u00e9", "\u0000"};

    private final Random random;
    private final List<String> tokens = new ArrayList<>();
    private final Set<Integer> pairs = new HashSet<>();

    RandomText(Random random) {
        this.random = random;
    }

    String net() {
        tokens.clear();
        pairs.clear();
        int size = random.nextInt(20);
        int people = size == 0 ? 12 : size < 6 ? 1 + random.nextInt(12) : 2 + random.nextInt(5);
        int ties = size == 0 ? 10 : size < 4 ? random.nextInt(10) : 1 + random.nextInt(6);
        int valleys = random.nextInt(5);
        for (int p = 0; p < people; p++) {
            person(p, valleys);
        }
        if (people > 1) {
            for (int t = 0; t < ties; t++) {
                tie(people);
            }
        }
        if (random.nextInt(3) == 0) {
            add("valley", random.nextInt(4), "most", random.nextInt(4), ";");
        }
        if (random.nextInt(6) == 0) {
            spoil();
        }
        String text = joined();
        return text.length() > 600 ? text.substring(0, 600) : text;
    }

    private void add(Object... some) {
        for (Object one : some) {
            tokens.add(String.valueOf(one));
        }
    }

    private boolean now(int of) {
        return random.nextInt(of) == 0;
    }

    private void person(int p, int valleys) {
        add("person", NAMES[p]);
        if (valleys > 0 && now(2)) {
            add("in", random.nextInt(valleys));
        }
        if (now(3)) {
            add("needs", now(3) ? 3 : 2);
        }
        if (now(4)) {
            add("late", random.nextInt(6));
        }
        if (now(9)) {
            add("stubborn");
        }
        if (now(4)) {
            add("costs", now(2) ? random.nextInt(6) : random.nextInt(100));
        }
        add(";");
    }

    private void tie(int people) {
        int from = random.nextInt(people);
        int to = (from + 1 + random.nextInt(people - 1)) % people;
        boolean isNew = pairs.add(from * 12 + to);
        if (!isNew && !now(40)) {
            return;
        }
        add("tie", NAMES[from], "to", NAMES[to], "odds", now(5) ? 16 * random.nextInt(2) : random.nextInt(17));
        boolean hoursFirst = now(2);
        if (hoursFirst && now(2)) {
            add("hours", 1 + random.nextInt(5));
        }
        if (now(6) && (pairs.add(to * 12 + from) || now(40))) {
            add("back");
        }
        if (!hoursFirst && now(2)) {
            add("hours", 1 + random.nextInt(5));
        }
        add(";");
    }

    private void spoil() {
        for (int i = random.nextInt(2); i >= 0; i--) {
            int place = tokens.isEmpty() ? 0 : random.nextInt(tokens.size());
            if (now(3) || tokens.isEmpty()) {
                tokens.add(place, STRAY[random.nextInt(STRAY.length)]);
            } else if (now(2)) {
                tokens.remove(place);
            } else {
                tokens.set(place, STRAY[random.nextInt(STRAY.length)]);
            }
        }
    }

    /** Blanks between words, and at times where none is needed. */
    private String joined() {
        StringBuilder text = new StringBuilder();
        boolean careless = now(12);
        for (String token : tokens) {
            boolean needed = !token.equals(";") && !text.isEmpty() && text.charAt(text.length() - 1) != ';';
            for (int i = needed && !(careless && now(20)) ? 1 : random.nextInt(8) / 7; i > 0; i--) {
                text.append(now(6) ? '\n' : ' ');
            }
            text.append(token);
        }
        return text.toString();
    }
}
