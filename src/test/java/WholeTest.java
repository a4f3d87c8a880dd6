import java.lang.reflect.InvocationTargetException;
import java.lang.reflect.Method;
import java.util.ArrayList;
import java.util.HashMap;
import java.util.List;
import java.util.Map;
import java.util.Random;

/**
 * Random runs of calls of all kinds on one object, with right and wrong numbers in any state, each answer held against
 * Document.java, the whole object written once more by the document. Arguments: how many objects, a seed.
 */
public final class WholeTest {
    private static final Checks checks = new Checks("WholeTest");
    private static final int MOST_CALLS = 512;
    private static final int[] EDGES = {-1, 0, 1, 2, 3, 4, 5, 12, 19, 20, 21, 39, 40, 41, 149, 150, 499, 500, 501, 600,
        999, 1000, 9999, 10000, Integer.MAX_VALUE, Integer.MIN_VALUE};
    private static final String[] CALLS = {"tray", "write", "read", "pour", "net", "many", "person", "tie", "refuse",
        "weight", "reached", "backWalk", "spread", "adds", "greedy", "best", "bound", "rounds", "fight", "answer",
        "latest", "stops", "source", "run", "likeliest", "neverTried", "telling", "lead", "check", "lot", "meter"};

    private final Map<String, Method> methods = new HashMap<>();
    private final Map<String, Integer> well = new HashMap<>();
    private final Random random;
    private final RandomText texts;
    private TellFirst x;
    private Document document;
    private int calls;
    private String told;

    private WholeTest(long seed) {
        random = new Random(seed);
        texts = new RandomText(random);
        for (Method method : TellFirst.class.getMethods()) {
            methods.put(method.getName(), method);
        }
    }

    public static void main(String[] args) throws ReflectiveOperationException {
        int objects = args.length > 0 ? Integer.parseInt(args[0]) : 600;
        WholeTest test = new WholeTest(args.length > 1 ? Long.parseLong(args[1]) : 10);
        for (int i = 0; i < objects; i++) {
            test.oneObject();
        }
        for (String name : CALLS) {
            checks.due("calls of " + name + " with status 0, some at least", test.well.containsKey(name), true);
        }
        checks.end();
    }

    private void oneObject() throws ReflectiveOperationException {
        x = new TellFirst();
        document = new Document();
        calls = 0;
        told = "";
        seeAll("a new object");
        for (int i = random.nextInt(6); i > 0 && document.people() == 0; i--) {
            feedNet();
        }
        int sort = random.nextInt(4);
        for (int tray = random.nextInt(4); tray >= 0 && random.nextBoolean(); tray--) {
            ask("tray", tray, sort, pick(now(5) ? -1 : 0, 14));
        }
        while (calls < MOST_CALLS - 200) {
            step();
        }
    }

    private void step() throws ReflectiveOperationException {
        switch (random.nextInt(24)) {
            case 0:
                feedNet();
                break;
            case 1:
                feedAnything();
                break;
            case 2:
            case 3:
                tellStory();
                break;
            case 4:
                ask("tray", pick(0, 3), pick(0, 3), pick(0, 40));
                break;
            default:
                any(CALLS[random.nextInt(CALLS.length)]);
                break;
        }
    }

    private boolean now(int of) {
        return random.nextInt(of) == 0;
    }

    /** Mostly a number that can be; else one at an edge. */
    private long pick(int low, int high) {
        if (high < low || now(25)) {
            return random.nextBoolean() ? EDGES[random.nextInt(EDGES.length)] : high + 1;
        }
        return low + random.nextInt(high - low + 1);
    }

    private long onePerson() {
        return pick(0, document.people() - 1);
    }

    private long somePeople() {
        return pick(0, (1 << document.people()) - 1) & (random.nextBoolean() ? -1 : random.nextInt());
    }

    private long someTies() {
        return pick(0, (1 << document.ties()) - 1);
    }

    private void any(String name) throws ReflectiveOperationException {
        switch (name) {
            case "write": ask(name, pick(0, 3), pick(0, 12), now(3) ? random.nextLong() : pick(-1, 3)); break;
            case "read": ask(name, pick(0, 3), pick(0, 12)); break;
            case "pour": ask(name, pick(0, 3), pick(0, 6), pick(0, 3), pick(0, 6), pick(now(9) ? -1 : 0, 6)); break;
            // Not often 0: an empty net would be taken, and most calls then have nobody to ask for.
            case "net": ask(name, pick(1, 60)); break;
            case "many": ask(name, pick(0, 1)); break;
            case "person": ask(name, onePerson(), pick(0, 4)); break;
            case "tie": ask(name, pick(0, document.ties() - 1), pick(0, 3)); break;
            case "refuse": ask(name, onePerson(), random.nextInt(2)); break;
            case "weight": ask(name, someTies()); break;
            case "reached": ask(name, somePeople(), someTies()); break;
            case "backWalk": ask(name, onePerson(), someTies()); break;
            case "spread": ask(name, somePeople(), someTies()); break;
            case "adds": ask(name, somePeople(), onePerson()); break;
            case "greedy":
            case "best":
            case "bound": ask(name, pick(1, 4), random.nextBoolean() ? pick(0, 8) : pick(0, 999)); break;
            case "rounds": ask(name, pick(0, 2)); break;
            case "fight": ask(name, somePeople(), somePeople(), pick(0, random.nextBoolean() ? 4 : 20), pick(0, 1)); break;
            case "answer": ask(name, somePeople(), pick(0, random.nextBoolean() ? 4 : 20)); break;
            case "latest": ask(name, somePeople(), onePerson()); break;
            case "stops": ask(name, somePeople(), pick(0, 3)); break;
            case "source": ask(name, pick(0, 3), pick(0, random.nextBoolean() ? 6 : 149), onePerson()); break;
            case "run": ask(name, pick(0, 3)); break;
            case "likeliest": ask(name, pick(0, document.ties() - 1)); break;
            case "neverTried": ask(name); break;
            case "telling": ask(name, pick(0, 4)); break;
            case "lead": ask(name, somePeople(), someTies(), onePerson(), pick(0, 1)); break;
            case "check": ask(name, somePeople(), someTies(), pick(0, 3)); break;
            case "lot": ask(name, pick(0, 9999)); break;
            case "meter": ask(name, somePeople(), pick(1, 500)); break;
            default: ask("tray", pick(0, 3), pick(0, 3), pick(0, 14)); break;
        }
    }

    private void feedNet() throws ReflectiveOperationException {
        String text = texts.net();
        int behind = 0;
        for (int i = 0; i < text.length(); i += 20) {
            long[] five = new long[5];
            for (int k = 0; k < 20; k++) {
                char sign = i + k < text.length() ? text.charAt(i + k) : ' ';
                five[k / 4] = (int) (five[k / 4] << 8 | sign);
            }
            behind = (int) ask("feed", five);
        }
        told = text;
        if (now(20)) {
            ask("net", behind + 1);
        }
        ask("net", text.length());
    }

    private void feedAnything() throws ReflectiveOperationException {
        for (int i = random.nextInt(4); i >= 0; i--) {
            ask("feed", random.nextInt(), random.nextInt(), random.nextInt(), random.nextInt(), random.nextInt());
        }
        if (!now(4)) {
            ask("net", 1 + random.nextInt(20));
        }
    }

    /** Hours as they come out come to a tray, perhaps one of them changed, and are asked for. */
    private void tellStory() throws ReflectiveOperationException {
        int people = document.people();
        if (people == 0) {
            return;
        }
        long seeds = 1L << random.nextInt(people) | somePeople();
        long lot = someTies();
        long tray = random.nextInt(4);
        long by = random.nextInt(8);
        boolean asSeen = random.nextBoolean();
        ask("tray", tray, 1 + random.nextInt(3), people + random.nextInt(3));
        for (int p = 0; p < people; p++) {
            long hour = ask("lead", seeds, lot, p, 1);
            if (asSeen) {
                hour = now(3) ? -1 : hour >= 0 && hour <= by ? 1 : 0;
            }
            ask("write", tray, p, now(20) ? pick(-1, 9) : hour);
        }
        if (asSeen) {
            ask("source", tray, by, onePerson());
            return;
        }
        ask("check", seeds, lot, tray);
        long run = ask("run", tray);
        for (int more = now(12) ? 15 : 0; more > 0; more--) {
            ask("run", tray);
        }
        if (run >= 0) {
            ask("telling", run);
            ask("likeliest", pick(0, document.ties() - 1));
        }
    }

    private long ask(String name, long... numbers) throws ReflectiveOperationException {
        StringBuilder what = new StringBuilder(name);
        for (long number : numbers) {
            what.append(' ').append(number);
        }
        long got = callOfClass(name, numbers);
        long due = document.call(name, numbers);
        String said = what + " (object's call " + calls + ", net " + told.replace('\n', ' ') + ")";
        checks.due(said, got, due);
        checks.due("status behind " + said, x.status(), document.status);
        calls += 2;
        if (document.status == 0) {
            well.merge(name, 1, Integer::sum);
        }
        if (!name.equals("feed")) {
            seeAll(said);
        }
        return due;
    }

    private void seeAll(String behind) {
        checks.due("top behind " + behind, x.top(), document.top.longValueExact());
        checks.due("bottom behind " + behind, x.bottom(), document.bottom.longValueExact());
        calls += 2;
        if (behind.startsWith("net") || now(10)) {
            checks.due("fault's kind behind " + behind, x.fault(0), document.faultKind);
            checks.due("fault's place behind " + behind, x.fault(1), document.faultPlace);
            checks.due("fault of another what behind " + behind, x.fault(random.nextBoolean() ? 2 : -1), TellFirst.NONE);
            calls += 3;
        }
    }

    private long callOfClass(String name, long[] numbers) throws ReflectiveOperationException {
        Method method = methods.get(name);
        List<Object> given = new ArrayList<>();
        for (Class<?> type : method.getParameterTypes()) {
            long number = numbers[given.size()];
            if (type == boolean.class) {
                given.add(number != 0);
            } else if (type == long.class) {
                given.add(number);
            } else {
                given.add((int) number);
            }
        }
        try {
            Object answer = method.invoke(x, given.toArray());
            return answer instanceof Boolean is ? (is ? 1 : 0) : ((Number) answer).longValue();
        } catch (InvocationTargetException thrown) {
            throw new IllegalStateException(name + " threw " + thrown.getCause() + " with " + given, thrown);
        }
    }
}
