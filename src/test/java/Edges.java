import java.util.ArrayList;
import java.util.List;

/**
 * Boundary cases. Each is told by its promise and the document's own words, and has answers just
 * inside of the boundary and just outside of it.
 */
final class Edges {
    private final Checks checks = new Checks("EdgesTest");
    private final String document;
    private final List<String> quotes = new ArrayList<>();
    private String label = "";
    private int inside;
    private int outside;

    Edges(String text) {
        document = plain(text);
    }

    /** The document without its line ends and marks, so that a quote may go over lines. */
    private static String plain(String text) {
        return text.replace("`", "").replaceAll("\\s+", " ");
    }

    void sentence(int promise, String words) {
        endSentence();
        label = "promise " + promise + ", \"" + words + "\": ";
        inside = 0;
        outside = 0;
        quotes.add(words);
        checks.due(label + "it stands in the document", document.contains(words), true);
    }

    private void endSentence() {
        if (!label.isEmpty()) {
            checks.due(label + "it has a case inside", inside > 0, true);
            checks.due(label + "it has a case outside", outside > 0, true);
        }
    }

    // ---- just inside

    void inside(TellFirst x, String call, long got, long want) {
        inside++;
        checks.due(x, label + "inside: " + call, got, want, 0);
    }

    void inside(TellFirst x, String call, boolean got) {
        inside(x, call, got ? 1 : 0, 1);
    }

    void insideIs(String what, long got, long want) {
        inside++;
        checks.due(label + "inside: " + what, got, want);
    }

    void insideFraction(TellFirst x, String call, boolean got, long top, long bottom) {
        inside(x, call, got);
        checks.fraction(x, label + "inside: " + call, top, bottom);
    }

    void insideFraction(TellFirst x, String call, long got, long want, long top, long bottom) {
        inside(x, call, got, want);
        checks.fraction(x, label + "inside: " + call, top, bottom);
    }

    /** A text that is taken as a net. */
    TellFirst sound(String text, int people) {
        TellFirst x = new TellFirst();
        inside(x, "net of " + text, Checks.net(x, text), people);
        insideIs("fault(0) of " + text, x.fault(0), 0);
        insideIs("fault(1) of " + text, x.fault(1), -1);
        return x;
    }

    // ---- just outside

    /** A call that is refused. */
    void outside(TellFirst x, String call, long got, int status) {
        outside++;
        checks.due(x, label + "outside: " + call, got, -1, status);
    }

    void outside(TellFirst x, String call, boolean got, int status) {
        outside++;
        checks.due(x, label + "outside: " + call, got, false, status);
    }

    /** A call that is not refused, but lies on the other side. */
    void outsideIs(String what, long got, long want) {
        outside++;
        checks.due(label + "outside: " + what, got, want);
    }

    void outsideFraction(TellFirst x, String call, boolean got, long top, long bottom) {
        outsideFraction(x, call, got ? 1 : 0, 1, top, bottom);
    }

    void outsideFraction(TellFirst x, String call, long got, long want, long top, long bottom) {
        outside++;
        checks.due(x, label + "outside: " + call, got, want, 0);
        checks.fraction(x, label + "outside: " + call, top, bottom);
    }

    /** A text with a fault at the place of the sign ^, which is no part of it. */
    TellFirst faulty(String marked, int kind) {
        int place = marked.indexOf('^');
        String text = marked.substring(0, place) + marked.substring(place + 1);
        TellFirst x = new TellFirst();
        outside(x, "net of " + marked, Checks.net(x, text), 10);
        outsideIs("fault(0) of " + marked, x.fault(0), kind);
        outsideIs("fault(1) of " + marked, x.fault(1), place);
        return x;
    }

    // ---- nets that many cases use

    static String people(int many) {
        StringBuilder text = new StringBuilder();
        for (int p = 0; p < many; p++) {
            text.append("person ").append((char) ('a' + p)).append(';');
        }
        return text.toString();
    }

    /** The first tells each of so many others. */
    static String star(int ties, int odds) {
        StringBuilder text = new StringBuilder();
        for (int t = 0; t < ties; t++) {
            text.append("tie a to ").append((char) ('b' + t)).append(" odds ").append(odds).append(';');
        }
        return text.toString();
    }

    /** Each tells the next one. */
    static String chain(int ties, String odds) {
        StringBuilder text = new StringBuilder();
        for (int t = 0; t < ties; t++) {
            text.append("tie ").append((char) ('a' + t)).append(" to ").append((char) ('b' + t)).append(" odds ")
                .append(odds).append(';');
        }
        return text.toString();
    }

    // ---- whether each sentence has a case

    /** Each sentence of the document holds words that a case quotes, but for those that begin so. */
    void cover(String from, String to, String... without) {
        endSentence();
        int start = document.indexOf(from);
        int end = document.indexOf(to);
        checks.due("the document goes from \"" + from + "\" to \"" + to + "\"", start >= 0 && end > start, true);
        for (String one : document.substring(Math.max(0, start), Math.max(0, end)).split("(?<!\\.)\\.(?= )|## ")) {
            String sentence = one.trim();
            boolean covered = sentence.isEmpty();
            for (String words : without) {
                covered |= sentence.startsWith(words);
            }
            for (String quote : quotes) {
                covered |= sentence.contains(quote);
            }
            checks.due("a case for the sentence \"" + sentence + "\"", covered, true);
        }
        checks.end();
    }
}
