import java.util.Random;

/** Runs of all the calls that an object is good for, held against the plain bench call by call. */
public final class AgainstPlainTest {
    private static final int RUNS = 4000;
    private static final int DEAREST_STEP = 40;
    private static final int LAST_LOOK = 100;

    private final Due due = new Due("AgainstPlainTest");
    private final Random random;
    private final int run;
    private final int style;
    private final Bench bench = Bench.fresh();
    private final PlainBench plain = new PlainBench();

    private AgainstPlainTest(int run) {
        this.run = run;
        random = new Random(9000 + run);
        style = run % 8;
    }

    public static void main(String[] args) {
        boolean right = true;
        for (int run = 0; run < RUNS; run++) {
            AgainstPlainTest test = new AgainstPlainTest(run);
            test.go();
            right &= test.due.allRight();
        }
        System.out.println("AgainstPlainTest: " + RUNS + " runs of some 500 calls " + (right ? "are as due" : "are not all as due"));
        if (!right) {
            System.exit(1);
        }
    }

    private void go() {
        int posts = style == 0 ? 12 : 2 + random.nextInt(11);
        for (int p = 0; p < posts; p++) {
            is("post()", bench.x().post(), plain.post());
        }
        int roads = roadsForStyle();
        for (int k = 0; k < roads; k++) {
            addRoad();
        }
        while (bench.callsLeft() >= DEAREST_STEP + LAST_LOOK) {
            step(random.nextInt(100));
        }
        lookAtAllRoads();
    }

    private void step(int kind) {
        if (kind < 25) {
            changeNumbers();
        } else if (kind < 50) {
            changeByRule();
        } else if (kind < 60) {
            changeNet();
        } else if (kind < 70) {
            search();
        } else if (kind < 80) {
            squareCall();
        } else {
            ask();
        }
    }

    private int roadsForStyle() {
        switch (style) {
            case 0:
            case 1:
                return 24;
            case 2:
            case 3:
                return 12;
            case 4:
                return 8;
            default:
                return random.nextInt(25);
        }
    }

    /** Plain nets and nets in two heaps come by chance too seldom: some styles keep to them. */
    private void addRoad() {
        for (int tries = 0; tries < 30; tries++) {
            int a = random.nextInt(12);
            int b = random.nextInt(12);
            boolean fits = a < plain.posts && b < plain.posts && a != b;
            if (style == 0 || style == 2 || style == 5) {
                fits = fits && plain.roads.stream().noneMatch(road -> road.isAt(a) && road.isAt(b));
            }
            if (style == 1 || style == 3) {
                fits = fits && a % 2 != b % 2;
            }
            if (fits) {
                is("road(" + a + ", " + b + ")", bench.x().road(a, b), plain.road(a, b));
                return;
            }
        }
    }

    private void changeNumbers() {
        int r = random.nextInt(plain.roads.size() + 1);
        int x = random.nextInt(random.nextBoolean() ? 18 : 5) - 1;
        int y = random.nextInt(random.nextBoolean() ? 18 : 5) - 1;
        switch (random.nextInt(4)) {
            case 0:
                is("paint(" + r + ", " + x + ")", bench.x().paint(r, x), plain.paint(r, x));
                break;
            case 1:
                is("swap(" + r + ", " + x + ", " + y + ")", bench.x().swap(r, x, y), plain.swap(r, x, y));
                break;
            case 2:
                is("chain(" + r + ", " + x + ", " + y + ")", bench.x().chain(r, x, y), plain.chain(r, x, y));
                break;
            default:
                is("paint(" + r + ", -1)", bench.x().paint(r, -1), plain.paint(r, -1));
        }
        lookAround("numbers");
    }

    private void changeByRule() {
        switch (random.nextInt(8)) {
            case 0:
                is("two()", bench.x().two(), plain.two());
                break;
            case 1:
            case 2:
                int n = 1 + random.nextInt(17);
                is("even(" + n + ")", bench.x().even(n), plain.even(n));
                break;
            case 3:
                mendAll();
                break;
            case 4:
                if (random.nextInt(3) == 0) {
                    is("wash()", bench.x().wash(), plain.wash());
                }
                break;
            default:
                int r = random.nextInt(plain.roads.size() + 1);
                is("paint(" + r + ", -1)", bench.x().paint(r, -1), plain.paint(r, -1));
                is("mend(" + r + ")", bench.x().mend(r), plain.mend(r));
        }
        lookAround("a rule");
    }

    private void mendAll() {
        is("wash()", bench.x().wash(), plain.wash());
        int start = random.nextInt(24);
        for (int k = 0; k < plain.roads.size(); k++) {
            int r = (start + k * 7) % 24;
            is("mend(" + r + ")", bench.x().mend(r), plain.mend(r));
        }
    }

    private void changeNet() {
        switch (random.nextInt(6)) {
            case 0:
                is("drop()", bench.x().drop(), plain.drop());
                break;
            case 1:
                is("post()", bench.x().post(), plain.post());
                break;
            case 2:
                int r = random.nextInt(plain.roads.size() + 2) - 1;
                int list = random.nextInt(65536) & random.nextInt(65536) & random.nextInt(65536);
                is("list(" + r + ", " + list + ")", bench.x().list(r, list), plain.list(r, list));
                break;
            case 3:
                int a = random.nextInt(14) - 1;
                int b = random.nextInt(14) - 1;
                if (style > 5) {
                    is("road(" + a + ", " + b + ")", bench.x().road(a, b), plain.road(a, b));
                }
                break;
            default:
                addRoad();
        }
        lookAround("the net");
    }

    private void search() {
        int n = random.nextInt(random.nextBoolean() ? 19 : 7) - 1;
        switch (random.nextInt(6)) {
            case 0:
                is("least()", bench.x().least(), plain.least());
                break;
            case 1:
                int got = bench.x().first(n);
                sameUnlessUnknown("first(" + n + ")", got, plain.first(n));
                break;
            case 2:
                is("count(" + n + ")", bench.x().count(n), plain.count(n));
                break;
            case 3:
                is("critical()", bench.x().critical(), plain.critical());
                break;
            default:
                shortLists();
                int chosen = bench.x().choose();
                sameUnlessUnknown("choose()", chosen, plain.choose());
        }
        lookAround("a search");
    }

    private void shortLists() {
        int bits = 1 + random.nextInt(5);
        int shift = random.nextInt(12);
        for (int r = 0; r < Math.min(8, plain.roads.size()); r++) {
            int list = 0;
            for (int k = 0; k < bits; k++) {
                list |= 1 << shift + random.nextInt(5);
            }
            list &= 65535;
            is("list(" + r + ", " + list + ")", bench.x().list(r, list), plain.list(r, list));
        }
    }

    private void sameUnlessUnknown(String what, int got, int want) {
        if (want != PlainBench.UNKNOWN) {
            is(what, got, want);
            return;
        }
        for (int r = 0; r < plain.roads.size(); r++) {
            plain.paint(r, bench.x().of(r, 2));
        }
    }

    private void squareCall() {
        int s = random.nextInt(6) == 0 ? random.nextInt(11) : 2 + random.nextInt(5);
        switch (random.nextInt(7)) {
            case 0:
                if (plain.side < 0 || random.nextInt(4) == 0 || plain.square.size() == plain.side) {
                    is("square(" + s + ")", bench.x().square(s), plain.square(s));
                }
                break;
            case 1:
                is("on()", bench.x().on(), plain.on());
                break;
            case 2:
                is("rows()", bench.x().rows(), plain.rows());
                break;
            default:
                int row = someRow();
                is("hold(" + row + ")", bench.x().hold(row), plain.hold(row));
        }
        for (int k = 0; k < 6; k++) {
            int r = random.nextInt(plain.square.size() + 2) - 1;
            int c = random.nextInt(Math.max(0, plain.side) + 2) - 1;
            is("at(" + r + ", " + c + ")", bench.x().at(r, c), plain.at(r, c));
        }
    }

    /** Mostly a row with each number once, as others are refused for another reason. */
    private int someRow() {
        int side = Math.max(2, plain.side);
        int[] row = new int[side];
        for (int c = 0; c < side; c++) {
            int d = random.nextInt(c + 1);
            row[c] = row[d];
            row[d] = c;
        }
        if (random.nextInt(8) == 0) {
            row[random.nextInt(side)] = random.nextInt(10);
        }
        int number = random.nextInt(12) == 0 ? 1 : 0;
        for (int digit : row) {
            number = 10 * number + digit;
        }
        return random.nextInt(12) == 0 ? -number : number;
    }

    private void ask() {
        int what = random.nextInt(6) - 1;
        int r = random.nextInt(26) - 1;
        int p = random.nextInt(14) - 1;
        int heap = random.nextInt(10) == 0 ? random.nextInt(8192) - 2 : random.nextInt(1 << plain.posts);
        is("of(" + r + ", " + what + ")", bench.x().of(r, what), plain.of(r, what));
        is("roads(" + p + ")", bench.x().roads(p), plain.roads(p));
        is("free(" + p + ")", bench.x().free(p), plain.free(p));
        is("clash()", bench.x().clash(), plain.clash());
        is("heaps()", bench.x().heaps(), plain.heaps());
        is("full(" + what + ")", bench.x().full(what), plain.full(what));
        is("need(" + heap + ")", bench.x().need(heap), plain.need(heap));
        is("many(" + what + ")", bench.x().many(what), plain.many(what));
        if (random.nextInt(4) == 0) {
            is("heap()", bench.x().heap(), plain.heap());
        }
    }

    /** Some of the roads alone: all of them, after each change, would leave no calls for changes. */
    private void lookAround(String after) {
        for (int k = 0; k < 6; k++) {
            int r = random.nextInt(plain.roads.size() + 1);
            int what = random.nextInt(3) == 0 ? random.nextInt(4) : 2;
            is("after " + after + " of(" + r + ", " + what + ")", bench.x().of(r, what), plain.of(r, what));
        }
        is("after " + after + " clash()", bench.x().clash(), plain.clash());
    }

    private void lookAtAllRoads() {
        for (int r = 0; r < 24; r++) {
            for (int what = 0; what < 4; what++) {
                is("at the end of(" + r + ", " + what + ")", bench.x().of(r, what), plain.of(r, what));
            }
        }
    }

    private void is(String call, long got, long want) {
        due.is("run " + run + ": " + call, got, want);
    }
}
