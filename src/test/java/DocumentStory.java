import java.util.Arrays;

/** Two things in one lot, hour by hour as the document tells it. */
final class DocumentStory {
    private static final int NONE = -1;

    private final DocumentNet net;
    private final long open;
    private final int[] mind;
    private final boolean[] isRed;
    final int[] took;

    DocumentStory(DocumentNet net, long red, long blue, int blueHour, long open) {
        int people = net.people.size();
        this.net = net;
        this.open = open;
        mind = new int[people];
        isRed = new boolean[people];
        took = new int[people];
        Arrays.fill(mind, NONE);
        Arrays.fill(took, NONE);
        for (int hour = 0; hour <= 149; hour++) {
            if (hour == 0) {
                seed(red, hour, true);
            }
            if (hour == blueHour) {
                seed(blue, hour, false);
            }
            for (int p = 0; p < people; p++) {
                makeUpMind(p, hour);
            }
        }
    }

    private void seed(long seeds, int hour, boolean asRed) {
        for (int p = 0; p < took.length; p++) {
            if ((seeds >> p & 1) == 1 && took[p] == NONE) {
                took[p] = hour;
                isRed[p] = asRed;
            }
        }
    }

    /** The hour in which a tie told; NONE if it did not. */
    private int toldIn(int tie) {
        DocumentNet.Tie one = net.ties.get(tie);
        return (open >> tie & 1) == 1 && took[one.from] != NONE ? took[one.from] + one.hours : NONE;
    }

    /** Its hour of taking is known from now on, perhaps ahead: nothing is told by it until then. */
    private void makeUpMind(int p, int hour) {
        if (net.people.get(p).stubborn || took[p] != NONE) {
            return;
        }
        int reds = 0;
        int blues = 0;
        for (int t = 0; t < net.ties.size(); t++) {
            if (net.ties.get(t).to == p && toldIn(t) != NONE && toldIn(t) <= hour) {
                reds += isRed[net.ties.get(t).from] ? 1 : 0;
                blues += isRed[net.ties.get(t).from] ? 0 : 1;
            }
        }
        if (reds + blues >= net.people.get(p).needs) {
            mind[p] = hour;
            took[p] = hour + net.people.get(p).late;
            isRed[p] = reds >= blues;
        }
    }

    int howManyTook(boolean ofRed) {
        int many = 0;
        for (int p = 0; p < took.length; p++) {
            many += took[p] != NONE && took[p] <= 149 && isRed[p] == ofRed ? 1 : 0;
        }
        return many;
    }

    /** The tie that told last by the hour in which one made up its mind, of several the lesser. */
    int movedBy(int person) {
        int mover = NONE;
        for (int t = net.ties.size() - 1; t >= 0; t--) {
            boolean tells = net.ties.get(t).to == person && toldIn(t) != NONE && toldIn(t) <= mind[person];
            if (tells && (mover == NONE || toldIn(t) >= toldIn(mover))) {
                mover = t;
            }
        }
        return mover;
    }
}
