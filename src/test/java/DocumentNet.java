import java.util.ArrayList;
import java.util.HashSet;
import java.util.List;
import java.util.Set;
import java.util.regex.Matcher;
import java.util.regex.Pattern;

/** A net and its text as the document tells them: all tokens first, then the parts, the faults as they are met. */
final class DocumentNet {
    private static final List<String> WORDS = List.of("person", "tie", "to", "odds", "valley", "most", "in", "needs",
        "late", "stubborn", "costs", "hours", "back");
    private static final Pattern TOKEN = Pattern.compile("[a-z]+|[0-9]+|;|(?s:.)");

    static final class Person {
        String name;
        int valley;
        int needs = 1;
        int late;
        boolean stubborn;
        int costs = 1;
    }

    static final class Tie {
        int from;
        int to;
        int odds;
        int hours = 1;
    }

    private static final class Fault extends RuntimeException {
        private static final long serialVersionUID = 1;
        private final int kind;

        Fault(int kind) {
            super("fault " + kind);
            this.kind = kind;
        }
    }

    final List<Person> people = new ArrayList<>();
    final List<Tie> ties = new ArrayList<>();
    final int[] most = {12, 12, 12, 12};
    int faultKind;
    int faultPlace = -1;

    private final List<String> tokens = new ArrayList<>();
    private final List<Integer> places = new ArrayList<>();
    private final Set<String> valleysTold = new HashSet<>();
    private int at;

    void read(String text) {
        Matcher matcher = TOKEN.matcher(text);
        while (matcher.find()) {
            if (!matcher.group().equals(" ") && !matcher.group().equals("\n")) {
                tokens.add(matcher.group());
                places.add(matcher.start());
            }
        }
        tokens.add("");
        places.add(text.length());
        try {
            while (!is("")) {
                part();
            }
        } catch (Fault fault) {
            faultKind = fault.kind;
            faultPlace = places.get(at);
        }
    }

    /** Whether the token is this one; one that is no token at all can't be asked for anything. */
    private boolean is(String word) {
        String token = tokens.get(at);
        if (!token.matches("[a-z]*|[0-9]{1,3}|;")) {
            throw new Fault(1);
        }
        return token.equals(word);
    }

    private void unless(boolean holds, int kind) {
        if (!holds) {
            throw new Fault(kind);
        }
    }

    private void pass(String word) {
        unless(is(word), 2);
        at++;
    }

    private void part() {
        if (is("person")) {
            at++;
            person();
        } else if (is("tie")) {
            unless(ties.size() < 10, 6);
            at++;
            tie();
        } else {
            pass("valley");
            int valley = soundNumber(0, 3);
            unless(valleysTold.add("valley " + valley), 5);
            at++;
            pass("most");
            most[valley] = soundNumber(0, 12);
            at++;
        }
        pass(";");
    }

    private int soundNumber(int low, int high) {
        is("");
        unless(tokens.get(at).matches("[0-9]+"), 2);
        int number = Integer.parseInt(tokens.get(at));
        unless(number >= low && number <= high, 4);
        return number;
    }

    private int number(int low, int high) {
        int number = soundNumber(low, high);
        at++;
        return number;
    }

    /** The person named so; -1 if there is none. The token stays. */
    private int named() {
        is("");
        String name = tokens.get(at);
        unless(name.matches("[a-z]{1,8}") && !WORDS.contains(name), 2);
        for (int p = 0; p < people.size(); p++) {
            if (people.get(p).name.equals(name)) {
                return p;
            }
        }
        return -1;
    }

    private void person() {
        unless(named() < 0, 3);
        unless(people.size() < 12, 6);
        Person one = new Person();
        one.name = tokens.get(at);
        people.add(one);
        at++;
        Set<String> had = new HashSet<>();
        while (is("in") || is("needs") || is("late") || is("stubborn") || is("costs")) {
            String trait = tokens.get(at);
            unless(had.add(trait), 5);
            at++;
            switch (trait) {
                case "in": one.valley = number(0, 3); break;
                case "needs": one.needs = number(1, 3); break;
                case "late": one.late = number(0, 5); break;
                case "costs": one.costs = number(0, 99); break;
                default: one.stubborn = true; break;
            }
        }
    }

    private boolean isThere(int from, int to) {
        for (Tie tie : ties) {
            if (tie.from == from && tie.to == to) {
                return true;
            }
        }
        return false;
    }

    private void tie() {
        Tie one = new Tie();
        one.from = named();
        unless(one.from >= 0, 3);
        at++;
        pass("to");
        one.to = named();
        unless(one.to >= 0, 3);
        unless(one.to != one.from, 5);
        unless(!isThere(one.from, one.to), 6);
        at++;
        pass("odds");
        one.odds = number(0, 16);
        ties.add(one);
        Tie second = null;
        Set<String> had = new HashSet<>();
        while (is("hours") || is("back")) {
            unless(had.add(tokens.get(at)), 5);
            if (is("back")) {
                unless(ties.size() < 10 && !isThere(one.to, one.from), 6);
                second = new Tie();
                second.from = one.to;
                second.to = one.from;
                ties.add(second);
                at++;
            } else {
                at++;
                one.hours = number(1, 5);
            }
        }
        if (second != null) {
            second.odds = one.odds;
            second.hours = one.hours;
        }
    }
}
