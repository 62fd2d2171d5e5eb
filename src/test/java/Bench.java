/** One object under test. Nothing is promised after its 512th call, so a test that would need more is wrong. */
final class Bench {
    static final int MOST_CALLS = 512;

    private final RoadColours object = new RoadColours();
    private int calls = 0;

    private Bench() {
    }

    static Bench fresh() {
        return new Bench();
    }

    static Bench posts(int posts) {
        Bench b = new Bench();
        for (int p = 0; p < posts; p++) {
            b.x().post();
        }
        return b;
    }

    /** Roads told as pairs of posts. */
    static Bench net(int posts, int... ends) {
        Bench b = posts(posts);
        for (int k = 0; k < ends.length; k += 2) {
            b.x().road(ends[k], ends[k + 1]);
        }
        return b;
    }

    static Bench circle(int posts) {
        Bench b = posts(posts);
        for (int p = 0; p < posts; p++) {
            b.x().road(p, (p + 1) % posts);
        }
        return b;
    }

    /** Twelve posts, with this many roads from post 0 to post 1. */
    static Bench between(int roads) {
        Bench b = posts(12);
        for (int r = 0; r < roads; r++) {
            b.x().road(0, 1);
        }
        return b;
    }

    /** Twelve posts, with this many roads, six at most, that have no post in common. */
    static Bench apart(int roads) {
        Bench b = posts(12);
        for (int r = 0; r < roads; r++) {
            b.x().road(2 * r, 2 * r + 1);
        }
        return b;
    }

    Bench painted(int... numbers) {
        for (int r = 0; r < numbers.length; r++) {
            x().paint(r, numbers[r]);
        }
        return this;
    }

    int callsLeft() {
        return MOST_CALLS - calls;
    }

    /** The object, for one call. */
    RoadColours x() {
        if (calls == MOST_CALLS) {
            throw new IllegalStateException("a test makes more than 512 calls on one object");
        }
        calls++;
        return object;
    }

    /** All that the object holds, as far as the document's own calls tell it; rows() tells a square's size. */
    String state() {
        int roads = x().many(1);
        int rows = x().many(2);
        StringBuilder told = new StringBuilder();
        told.append("posts ").append(x().many(0)).append(", roads");
        for (int r = 0; r < roads; r++) {
            told.append(" (");
            for (int what = 0; what < 4; what++) {
                told.append(what == 0 ? "" : " ").append(x().of(r, what));
            }
            told.append(')');
        }
        told.append(", ways to go on ").append(x().rows()).append(", square");
        for (int r = 0; r < rows; r++) {
            told.append(' ').append(row(r));
        }
        return told.toString();
    }

    String row(int r) {
        StringBuilder told = new StringBuilder();
        for (int c = 0; c < 10; c++) {
            int number = x().at(r, c);
            if (number == -1) {
                break;
            }
            told.append(number);
        }
        return told.toString();
    }
}
