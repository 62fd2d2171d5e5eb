/** For each promise ordinary calls, the edges that the document names, and wrong arguments. */
public final class PromisesTest {
    private static final Due DUE = new Due("PromisesTest");
    private static final int[] FAR = {Integer.MIN_VALUE, Integer.MIN_VALUE + 1, -1000, -3, -2, 24, 31, 32, 33, 64, 65536,
        1 << 30, Integer.MAX_VALUE};

    private PromisesTest() {
    }

    public static void main(String[] args) {
        newObject();
        postsAndRoads();
        numbers();
        freeAndClash();
        chains();
        mending();
        mendingRefused();
        twoHeaps();
        evenNumbers();
        fullAndBound();
        leastFirstCount();
        largeCounts();
        criticalNets();
        heapsAndNeeds();
        lists();
        squares();
        weeks();
        farArguments();
        DUE.end();
    }

    private static RoadColours withPosts(int posts) {
        RoadColours x = new RoadColours();
        for (int p = 0; p < posts; p++) {
            x.post();
        }
        return x;
    }

    /** Roads told as pairs of posts. */
    private static RoadColours net(int posts, int... ends) {
        RoadColours x = withPosts(posts);
        for (int k = 0; k < ends.length; k += 2) {
            x.road(ends[k], ends[k + 1]);
        }
        return x;
    }

    private static RoadColours circle(int posts) {
        RoadColours x = withPosts(posts);
        for (int p = 0; p < posts; p++) {
            x.road(p, (p + 1) % posts);
        }
        return x;
    }

    private static void paintAll(RoadColours x, int... numbers) {
        for (int r = 0; r < numbers.length; r++) {
            x.paint(r, numbers[r]);
        }
    }

    private static void numbersAre(String what, RoadColours x, int... numbers) {
        for (int r = 0; r < numbers.length; r++) {
            DUE.is(what + ": number of road " + r, x.of(r, 2), numbers[r]);
        }
    }

    private static void newObject() {
        RoadColours x = new RoadColours();
        for (int what = 0; what < 3; what++) {
            DUE.is("new many(" + what + ")", x.many(what), 0);
        }
        DUE.is("new drop()", x.drop(), -2);
        DUE.is("new wash()", x.wash(), 0);
        DUE.is("new of(0, 0)", x.of(0, 0), -2);
        DUE.is("new roads(0)", x.roads(0), -2);
        DUE.is("new free(0)", x.free(0), -2);
        DUE.is("new clash()", x.clash(), -1);
        DUE.is("new heaps()", x.heaps(), 1);
        DUE.is("new two()", x.two(), 0);
        DUE.is("new even(1)", x.even(1), 0);
        DUE.is("new full(0)", x.full(0), 0);
        DUE.is("new full(1)", x.full(1), 0);
        DUE.is("new full(2)", x.full(2), 1);
        DUE.is("new full(3)", x.full(3), 0);
        DUE.is("new least()", x.least(), 0);
        DUE.is("new first(0)", x.first(0), 1);
        DUE.is("new count(9)", x.count(9), 1);
        DUE.is("new critical()", x.critical(), 0);
        DUE.is("new heap()", x.heap(), -1);
        DUE.is("new need(7)", x.need(7), -2);
        DUE.is("new choose()", x.choose(), 1);
        DUE.is("new rows()", x.rows(), -2);
        DUE.is("new on()", x.on(), -2);
        DUE.is("new hold(0)", x.hold(0), -2);
        DUE.is("new at(0, 0)", x.at(0, 0), -1);
    }

    private static void postsAndRoads() {
        RoadColours x = new RoadColours();
        for (int p = 0; p < 12; p++) {
            DUE.is("post()", x.post(), p);
        }
        DUE.is("post() the 13th", x.post(), -2);
        DUE.is("many(0)", x.many(0), 12);
        DUE.is("road(0, 12)", x.road(0, 12), -2);
        DUE.is("road(12, 0)", x.road(12, 0), -2);
        DUE.is("road(-1, 0)", x.road(-1, 0), -2);
        DUE.is("road(5, 5)", x.road(5, 5), -2);
        for (int r = 0; r < 24; r++) {
            DUE.is("road()", x.road(11, r % 2), r);
        }
        DUE.is("road() the 25th", x.road(0, 1), -2);
        DUE.is("many(1)", x.many(1), 24);
        DUE.is("roads(11)", x.roads(11), 24);
        DUE.is("roads(1)", x.roads(1), 12);
        DUE.is("roads(2)", x.roads(2), 0);
        DUE.is("roads(12)", x.roads(12), -2);
        DUE.is("of(23, 0)", x.of(23, 0), 11);
        DUE.is("of(23, 1)", x.of(23, 1), 1);
        DUE.is("of(23, 2)", x.of(23, 2), -1);
        DUE.is("of(23, 3)", x.of(23, 3), 65535);
        DUE.is("of(23, 4)", x.of(23, 4), -2);
        DUE.is("of(24, 0)", x.of(24, 0), -2);
        x.paint(23, 9);
        x.list(23, 5);
        DUE.is("drop()", x.drop(), 23);
        DUE.is("of(23, 0) dropped", x.of(23, 0), -2);
        DUE.is("roads(1) after drop", x.roads(1), 11);
        DUE.is("road(3, 4)", x.road(3, 4), 23);
        DUE.is("of(23, 2) anew", x.of(23, 2), -1);
        DUE.is("of(23, 3) anew", x.of(23, 3), 65535);
        for (int left = 23; left >= 0; left--) {
            DUE.is("drop()", x.drop(), left);
        }
        DUE.is("drop() of none", x.drop(), -2);
        DUE.is("many(0) after drops", x.many(0), 12);
        DUE.is("many(3)", x.many(3), -2);
        DUE.is("many(-1)", x.many(-1), -2);
    }

    private static void numbers() {
        RoadColours x = net(3, 0, 1, 1, 2, 2, 0);
        DUE.is("paint(0, 15)", x.paint(0, 15), -1);
        DUE.is("paint(1, 15)", x.paint(1, 15), -1);
        DUE.is("paint(1, 16)", x.paint(1, 16), -2);
        DUE.is("paint(1, -2)", x.paint(1, -2), -2);
        DUE.is("paint(3, 0)", x.paint(3, 0), -2);
        DUE.is("paint(-1, 0)", x.paint(-1, 0), -2);
        DUE.is("of(1, 2)", x.of(1, 2), 15);
        DUE.is("full(3)", x.full(3), 2);
        DUE.is("paint(1, -1)", x.paint(1, -1), 15);
        DUE.is("full(3) less", x.full(3), 1);
        DUE.is("wash()", x.wash(), 1);
        DUE.is("wash() again", x.wash(), 0);
        numbersAre("washed", x, -1, -1, -1);
    }

    private static void freeAndClash() {
        RoadColours x = withPosts(3);
        for (int r = 0; r < 16; r++) {
            x.road(0, 1);
        }
        DUE.is("clash() without numbers", x.clash(), -1);
        for (int r = 0; r < 16; r++) {
            DUE.is("free(0)", x.free(0), r);
            x.paint(r, r);
        }
        DUE.is("free(0) all taken", x.free(0), 16);
        DUE.is("free(1) all taken", x.free(1), 16);
        DUE.is("free(2)", x.free(2), 0);
        DUE.is("free(3)", x.free(3), -2);
        DUE.is("clash() of none", x.clash(), -1);
        x.paint(0, -1);
        DUE.is("free(1) with a gap", x.free(1), 0);
        x.paint(15, 7);
        DUE.is("clash() of 7 and 15", x.clash(), 7);
        x.paint(14, 3);
        DUE.is("clash() of 3 and 14", x.clash(), 3);
        RoadColours apart = net(4, 0, 1, 2, 3);
        paintAll(apart, 5, 5);
        DUE.is("clash() apart", apart.clash(), -1);
    }

    private static void chains() {
        RoadColours x = net(6, 0, 1, 1, 2, 2, 3, 3, 4, 4, 5);
        paintAll(x, 1, 2, 1, 2, 3);
        DUE.is("chain(0, 1, 2)", x.chain(0, 1, 2), 4);
        DUE.is("chain(3, 2, 1)", x.chain(3, 2, 1), 4);
        DUE.is("chain(4, 1, 2) has neither", x.chain(4, 1, 2), -2);
        DUE.is("chain(4, 3, 2)", x.chain(4, 3, 2), 2);
        DUE.is("chain(0, 1, 1)", x.chain(0, 1, 1), -2);
        DUE.is("chain(0, 1, 16)", x.chain(0, 1, 16), -2);
        DUE.is("chain(0, 16, 1)", x.chain(0, 16, 1), -2);
        DUE.is("chain(0, -1, 1)", x.chain(0, -1, 1), -2);
        DUE.is("chain(5, 1, 2)", x.chain(5, 1, 2), -2);
        x.paint(4, -1);
        DUE.is("chain(4, -1, 2) without a number", x.chain(4, -1, 2), -2);
        x.paint(4, 3);
        DUE.is("swap(1, 1, 2)", x.swap(1, 1, 2), 4);
        numbersAre("swapped", x, 2, 1, 2, 1, 3);
        DUE.is("swap(0, 2, 0)", x.swap(0, 2, 0), 1);
        numbersAre("swapped alone", x, 0, 1, 2, 1, 3);
        DUE.is("swap(0, 1, 2) has neither", x.swap(0, 1, 2), -2);
        numbersAre("refused", x, 0, 1, 2, 1, 3);
        // Roads that clash hang together too.
        RoadColours star = net(5, 0, 1, 0, 2, 0, 3, 3, 4);
        paintAll(star, 1, 1, 1, 1);
        DUE.is("swap() of clashing", star.swap(3, 1, 0), 4);
        numbersAre("clashing", star, 0, 0, 0, 0);
        DUE.is("chain() without numbers", circle(12).chain(0, 0, 1), -2);
        RoadColours round = circle(12);
        paintAll(round, 0, 1, 0, 1, 0, 1, 0, 1, 0, 1, 0, 1);
        DUE.is("chain() round a circle", round.chain(6, 1, 0), 12);
    }

    private static void mending() {
        // The fan ends at once with a number free at both posts.
        RoadColours plain = net(3, 0, 1, 0, 2);
        DUE.is("mend(0)", plain.mend(0), 0);
        DUE.is("mend(1)", plain.mend(1), 0);
        numbersAre("fan of two", plain, 1, 0);
        // Fifteen roads among six posts, the latest first.
        RoadColours k6 = withPosts(6);
        int roads = 0;
        for (int a = 0; a < 6; a++) {
            for (int b = a + 1; b < 6; b++) {
                k6.road((a + b) % 2 == 0 ? a : b, (a + b) % 2 == 0 ? b : a);
                roads++;
            }
        }
        for (int r = roads - 1; r >= 0; r--) {
            int given = k6.mend(r);
            DUE.holds("mend(" + r + ") of six posts is 0 to 5", given >= 0 && given <= 5);
            DUE.is("mend(" + r + ") gives", k6.of(r, 2), given);
            DUE.is("clash() after mend(" + r + ")", k6.clash(), -1);
        }
        // The fan 2, 3, 1 comes back to 3, and the chain has no road at 2: the fan is cut off behind it.
        RoadColours cut = net(4, 0, 2, 0, 3, 0, 1);
        paintAll(cut, -1, 0, 1);
        DUE.is("mend(0) with a cut", cut.mend(0), 0);
        numbersAre("fan cut off", cut, 0, 2, 1);
        // The fan 4, 3, 2 comes back to 3, and the chain goes on to 4: the whole fan is turned.
        RoadColours whole = net(5, 0, 4, 3, 0, 0, 2, 4, 3);
        paintAll(whole, -1, 0, 2, 1);
        DUE.is("mend(0) of the whole fan", whole.mend(0), 1);
        numbersAre("whole fan", whole, 1, 2, 0, 0);
    }

    private static void mendingRefused() {
        RoadColours x = net(4, 0, 1, 1, 2, 2, 3);
        DUE.is("mend(3)", x.mend(3), -2);
        DUE.is("mend(-1)", x.mend(-1), -2);
        paintAll(x, 2, -1, -1);
        DUE.is("mend(0) has one", x.mend(0), -2);
        DUE.is("mend(1) with FULL there", x.mend(1), 0);
        x.paint(0, 3);
        DUE.is("mend(2) above FULL", x.mend(2), -2);
        x.paint(0, 0);
        DUE.is("mend(2) with a clash", x.mend(2), -2);
        numbersAre("refused mend", x, 0, 0, -1);
        x.paint(0, 1);
        x.road(3, 2);
        DUE.is("mend(2) not plain", x.mend(2), -2);
        x.drop();
        DUE.is("mend(2)", x.mend(2), 0);
        numbersAre("mended", x, 1, 2, 0);
    }

    private static void twoHeaps() {
        DUE.is("heaps() of a triangle", circle(3).heaps(), 0);
        DUE.is("heaps() of a square", circle(4).heaps(), 1);
        DUE.is("heaps() of 11", circle(11).heaps(), 0);
        DUE.is("heaps() of 12", circle(12).heaps(), 1);
        DUE.is("two() of a triangle", circle(3).two(), -2);
        RoadColours later = net(8, 6, 7, 0, 1, 3, 4, 4, 5, 5, 3);
        DUE.is("heaps() with a triangle apart", later.heaps(), 0);
        later.drop();
        DUE.is("heaps() without it", later.heaps(), 1);
        later.paint(0, 9);
        DUE.is("two()", later.two(), 2);
        numbersAre("two", later, 0, 0, 0, 1);
        // The last road has no number below FULL free at both posts: a chain is swapped.
        RoadColours swap = net(4, 0, 1, 2, 3, 2, 1, 0, 3);
        paintAll(swap, 7, 7, 7, 7);
        DUE.is("two() with several", swap.two(), 2);
        numbersAre("two with several", swap, 0, 0, 1, 1);
        RoadColours chain = net(6, 0, 1, 2, 3, 2, 1, 4, 3, 0, 5, 4, 5);
        DUE.is("two() with a swap", chain.two(), 2);
        numbersAre("two with a swap", chain, 0, 0, 1, 1, 1, 0);
        RoadColours wide = withPosts(3);
        for (int r = 0; r < 16; r++) {
            wide.road(r % 2, 1 - r % 2);
        }
        DUE.is("two() of 16", wide.two(), 16);
        DUE.is("of(15, 2)", wide.of(15, 2), 15);
        wide.road(0, 2);
        DUE.is("two() of 17", wide.two(), -2);
        DUE.is("of(15, 2) refused", wide.of(15, 2), 15);
        DUE.is("heaps() of 17", wide.heaps(), 1);
    }

    private static void evenNumbers() {
        RoadColours x = net(12, 0, 1, 2, 3, 4, 5, 6, 7);
        paintAll(x, 2, 2, 2, 2);
        DUE.is("even(2) with 2 there", x.even(2), -2);
        DUE.is("even(17)", x.even(17), -2);
        DUE.is("even(0)", x.even(0), -2);
        DUE.is("even(3)", x.even(3), 2);
        numbersAre("even in three", x, 0, 1, 2, 2);
        DUE.is("even(3) again", x.even(3), 0);
        DUE.is("even(16)", x.even(16), 1);
        numbersAre("even in sixteen", x, 0, 1, 3, 2);
        x.paint(0, -1);
        DUE.is("even() with none", x.even(16), -2);
        RoadColours star = net(3, 0, 1, 0, 2);
        paintAll(star, 1, 1);
        DUE.is("even() with a clash", star.even(2), -2);
        // A way 0 1 0 and a road 0 alone: the chain with the least road of those with more 0 than 1.
        RoadColours ways = net(8, 0, 1, 1, 2, 2, 3, 4, 5, 6, 7);
        paintAll(ways, 0, 1, 0, 0, 0);
        DUE.is("even(2) of a way", ways.even(2), 1);
        numbersAre("even way", ways, 1, 0, 1, 0, 0);
        // The chain with the least road may begin with y, or be as heavy: then it is passed over.
        RoadColours passed = net(9, 0, 1, 1, 2, 3, 4, 5, 6, 7, 8);
        paintAll(passed, 1, 0, 0, 0, 0);
        DUE.is("even(2) passing one", passed.even(2), 1);
        numbersAre("even passing one", passed, 1, 0, 1, 0, 0);
    }

    private static void fullAndBound() {
        RoadColours x = net(4, 0, 1, 0, 1, 1, 2, 2, 0, 3, 0);
        DUE.is("full(0)", x.full(0), 4);
        DUE.is("full(1)", x.full(1), 4);
        DUE.is("full(2)", x.full(2), 0);
        x.paint(2, 0);
        DUE.is("full(3)", x.full(3), 1);
        DUE.is("full(4)", x.full(4), -2);
        DUE.is("full(-1)", x.full(-1), -2);
        x.drop();
        x.road(1, 2);
        x.road(2, 0);
        DUE.is("full(1) of a fat triangle", x.full(1), 6);
        DUE.is("full(0) of a fat triangle", x.full(0), 4);
        DUE.is("full(2) of a circle", circle(5).full(2), 1);
        DUE.is("full(1) of a circle", circle(5).full(1), 3);
        RoadColours back = net(2, 0, 1, 1, 0);
        DUE.is("full(2) there and back", back.full(2), 0);
        DUE.is("full(1) of two posts", back.full(1), 2);
    }

    private static void leastFirstCount() {
        RoadColours x = net(4, 0, 1, 2, 3, 1, 2, 3, 0);
        DUE.is("least()", x.least(), 2);
        DUE.is("first(-1)", x.first(-1), -2);
        DUE.is("first(17)", x.first(17), -2);
        paintAll(x, 9, 9, 9, 9);
        DUE.is("first(1)", x.first(1), 0);
        numbersAre("none found", x, 9, 9, 9, 9);
        DUE.is("first(2)", x.first(2), 1);
        numbersAre("first", x, 0, 0, 1, 1);
        DUE.is("first(16)", x.first(16), 1);
        numbersAre("first of 16", x, 0, 0, 1, 1);
        DUE.is("count(0)", x.count(0), 0);
        DUE.is("count(2)", x.count(2), 2);
        DUE.is("count(3)", x.count(3), 18);
        DUE.is("count(-1)", x.count(-1), -2);
        DUE.is("count(10)", x.count(10), -2);
        // Road 1 can't have 0 when the way of three roads between them has but two numbers.
        RoadColours way = net(5, 0, 1, 3, 4, 1, 2, 2, 3);
        DUE.is("first(2) of a way", way.first(2), 1);
        numbersAre("first of a way", way, 0, 1, 1, 0);
        DUE.is("first(3) of a way", way.first(3), 1);
        numbersAre("first of a way in three", way, 0, 0, 1, 2);
        RoadColours twelve = circle(12);
        DUE.is("least() of 12", twelve.least(), 2);
        twelve.road(0, 2);
        DUE.is("least() of 13", twelve.least(), -2);
        DUE.is("first(5) of 13", twelve.first(5), -2);
        DUE.is("count(5) of 13", twelve.count(5), -2);
        DUE.is("critical() of 13", twelve.critical(), -2);
    }

    private static void largeCounts() {
        // A circle of 12 in n numbers: (n - 1)^12 + (n - 1).
        DUE.is("count(9) of a circle", circle(12).count(9), 68719476744L);
        RoadColours pairs = withPosts(12);
        for (int r = 0; r < 12; r++) {
            pairs.road(r % 6 * 2, r % 6 * 2 + 1);
        }
        DUE.is("count(9) of six pairs", pairs.count(9), 139314069504L);
        DUE.is("least() of six pairs", pairs.least(), 2);
        RoadColours wide = withPosts(2);
        for (int r = 0; r < 12; r++) {
            wide.road(0, 1);
        }
        DUE.is("least() of twelve between two", wide.least(), 12);
        DUE.is("count(9) of twelve between two", wide.count(9), 0);
        DUE.is("first(11) of twelve between two", wide.first(11), 0);
        DUE.is("first(12) of twelve between two", wide.first(12), 1);
        DUE.is("of(11, 2)", wide.of(11, 2), 11);
        for (int r = 0; r < 3; r++) {
            wide.drop();
        }
        DUE.is("count(9) of nine between two", wide.count(9), 362880);
    }

    private static void criticalNets() {
        DUE.is("critical() of a triangle", circle(3).critical(), 1);
        DUE.is("critical() of a circle of 4", circle(4).critical(), 0);
        DUE.is("critical() of a circle of 11", circle(11).critical(), 1);
        RoadColours more = circle(5);
        more.post();
        more.post();
        more.road(5, 6);
        DUE.is("critical() with a road apart", more.critical(), 0);
        RoadColours ahead = net(7, 5, 6, 0, 1, 1, 2, 2, 3, 3, 4, 4, 0);
        DUE.is("critical() with a road apart ahead", ahead.critical(), 0);
        // Petersen's net without one post: no heap shows it, but four numbers are needed.
        RoadColours x = net(9, 0, 1, 1, 2, 2, 3, 0, 5, 1, 6, 2, 7, 3, 8, 5, 7, 7, 4, 4, 6, 6, 8, 8, 5);
        DUE.is("full(0) of Petersen's", x.full(0), 3);
        DUE.is("full(1) of Petersen's", x.full(1), 3);
        DUE.is("least() of Petersen's", x.least(), 4);
        DUE.is("critical() of Petersen's", x.critical(), 1);
        DUE.is("first(3) of Petersen's", x.first(3), 0);
        DUE.is("first(4) of Petersen's", x.first(4), 1);
        DUE.is("clash() of Petersen's", x.clash(), -1);
        // A fat triangle with FULL 4 and LEAST 6: still 5 with any one road less.
        DUE.is("critical() of a fat triangle", net(3, 0, 1, 0, 1, 1, 2, 1, 2, 2, 0, 2, 0).critical(), 0);
    }

    private static void heapsAndNeeds() {
        RoadColours x = net(6, 0, 1, 1, 2, 2, 0, 3, 4, 4, 5, 5, 3);
        DUE.is("need(7)", x.need(7), 3);
        DUE.is("need(56)", x.need(56), 3);
        DUE.is("need(63)", x.need(63), 2);
        DUE.is("need(31)", x.need(31), 2);
        DUE.is("need(21)", x.need(21), 1);
        DUE.is("need(3) of two posts", x.need(3), -2);
        DUE.is("need(0)", x.need(0), -2);
        DUE.is("need(71) beyond", x.need(71), -2);
        DUE.is("need(-1)", x.need(-1), -2);
        DUE.is("heap()", x.heap(), 7);
        x.road(3, 5);
        DUE.is("heap() of the greatest", x.heap(), 56);
        DUE.is("full(1)", x.full(1), 4);
        DUE.is("heap() of two posts", withPosts(2).heap(), -1);
        DUE.is("heap() without roads", withPosts(3).heap(), 7);
        DUE.is("need(7) without roads", withPosts(3).need(7), 0);
        DUE.is("full(1) without roads", withPosts(12).full(1), 0);
        RoadColours last = net(12, 9, 10, 10, 11, 11, 9);
        DUE.is("heap() of the last", last.heap(), 7 << 9);
        RoadColours big = net(12, 0, 11, 0, 11, 5, 6);
        // Posts 0 and 11 with any third make the need 2: the least number has post 1.
        DUE.is("heap() with a third", big.heap(), 1 + 2 + 2048);
    }

    private static void lists() {
        RoadColours x = net(4, 0, 1, 1, 2, 2, 3);
        DUE.is("list(0, 65536)", x.list(0, 65536), -2);
        DUE.is("list(0, -1)", x.list(0, -1), -2);
        DUE.is("list(3, 1)", x.list(3, 1), -2);
        DUE.is("list(0, 65535)", x.list(0, 65535), 65535);
        DUE.is("list(0, 0)", x.list(0, 0), 65535);
        DUE.is("choose() of an empty list", x.choose(), 0);
        numbersAre("nothing changes", x, -1, -1, -1);
        DUE.is("list(0, 3)", x.list(0, 3), 0);
        x.list(1, 3);
        x.list(2, 1);
        DUE.is("choose()", x.choose(), 1);
        numbersAre("chosen", x, 0, 1, 0);
        x.list(2, 2);
        DUE.is("choose() otherwise", x.choose(), 1);
        numbersAre("chosen otherwise", x, 1, 0, 1);
        x.list(2, 32768);
        DUE.is("choose() far", x.choose(), 1);
        numbersAre("chosen far", x, 0, 1, 15);
        DUE.is("of(2, 3)", x.of(2, 3), 32768);
        manyListed();
    }

    private static void manyListed() {
        // Six roads apart with all numbers, ahead of two that can't both have 0.
        RoadColours x = net(12, 0, 1, 2, 3, 4, 5, 6, 7, 8, 9, 10, 11, 0, 2, 2, 0);
        x.list(6, 1);
        x.list(7, 1);
        DUE.is("choose() of none", x.choose(), 0);
        x.list(7, 4);
        DUE.is("choose() of eight", x.choose(), 1);
        numbersAre("eight", x, 1, 1, 0, 0, 0, 0, 0, 2);
        x.road(0, 5);
        DUE.is("choose() of nine", x.choose(), -2);
        RoadColours wide = withPosts(2);
        for (int r = 0; r < 8; r++) {
            wide.road(0, 1);
            wide.list(r, 127);
        }
        DUE.is("choose() of seven for eight", wide.choose(), 0);
        wide.list(0, 128 + 127);
        DUE.is("choose() of eight for eight", wide.choose(), 1);
        numbersAre("eight for eight", wide, 7, 0, 1, 2, 3, 4, 5, 6);
    }

    private static void squares() {
        RoadColours x = new RoadColours();
        DUE.is("square(10)", x.square(10), -2);
        DUE.is("square(2)", x.square(2), -1);
        DUE.is("rows()", x.rows(), 2);
        DUE.is("on()", x.on(), 1);
        DUE.is("hold(1) again", x.hold(1), -2);
        DUE.is("hold(10)", x.hold(10), 2);
        DUE.is("on() of a whole one", x.on(), -2);
        DUE.is("rows() of a whole one", x.rows(), -2);
        DUE.is("hold(10) of a whole one", x.hold(10), -2);
        DUE.is("square(1) keeps", x.square(1), -2);
        DUE.is("at(1, 0)", x.at(1, 0), 1);
        DUE.is("at(1, 2)", x.at(1, 2), -1);
        DUE.is("at(2, 0)", x.at(2, 0), -1);
        DUE.is("square(4)", x.square(4), 2);
        DUE.is("many(2)", x.many(2), 0);
        DUE.is("at(0, 0) of no rows", x.at(0, 0), -1);
        DUE.is("hold(10123) too long", x.hold(10123), -2);
        DUE.is("hold(-123)", x.hold(-123), -2);
        DUE.is("hold(122)", x.hold(122), -2);
        DUE.is("hold(1234)", x.hold(1234), -2);
        DUE.is("hold(3210)", x.hold(3210), 1);
        DUE.is("rows() of 9", x.rows(), 9);
        DUE.is("on() behind it", x.on(), 123);
        DUE.is("square(4) anew", x.square(4), 4);
        DUE.is("rows() of 24", x.rows(), 24);
        DUE.is("square(9)", x.square(9), 4);
        DUE.is("rows() of 9!", x.rows(), 362880);
        DUE.is("hold() of 10 digits", x.hold(1012345678), -2);
        DUE.is("hold() of 9 digits", x.hold(876543210), 1);
        DUE.is("rows() without fixed ones", x.rows(), 133496);
        for (int row = 1; row < 9; row++) {
            DUE.holds("on() of row " + row, x.on() > 0);
        }
        columnsDiffer(x);
    }

    private static void columnsDiffer(RoadColours x) {
        for (int c = 0; c < 9; c++) {
            int seen = 0;
            for (int r = 0; r < 9; r++) {
                seen |= 1 << x.at(r, c);
            }
            DUE.is("numbers of column " + c, seen, 511);
        }
        DUE.is("many(2) of a whole one", x.many(2), 9);
        DUE.is("at(-1, 0)", x.at(-1, 0), -1);
        DUE.is("at(0, -1)", x.at(0, -1), -1);
        DUE.is("at(0, 9)", x.at(0, 9), -1);
        DUE.is("at(9, 0)", x.at(9, 0), -1);
    }

    private static void weeks() {
        for (int m = -2; m <= 23; m++) {
            for (int w = -2; w <= m + 1; w++) {
                RoadColours x = new RoadColours();
                for (int i = -2; i <= m + 1; i++) {
                    DUE.is("meets(" + m + ", " + w + ", " + i + ")", x.meets(m, w, i), PlainBench.meets(m, w, i));
                }
            }
        }
    }

    /** Refused with the state as it was, whatever the argument. */
    private static void farArguments() {
        RoadColours x = net(5, 0, 1, 1, 2, 2, 3, 3, 4, 4, 0);
        x.first(3);
        x.square(3);
        x.on();
        for (int far : FAR) {
            DUE.is("road(" + far + ", 0)", x.road(far, 0), -2);
            DUE.is("road(0, " + far + ")", x.road(0, far), -2);
            DUE.is("paint(" + far + ", 0)", x.paint(far, 0), -2);
            DUE.is("paint(0, " + far + ")", x.paint(0, far), -2);
            DUE.is("of(" + far + ", 0)", x.of(far, 0), -2);
            DUE.is("of(0, " + far + ")", x.of(0, far), -2);
            DUE.is("roads(" + far + ")", x.roads(far), -2);
            DUE.is("free(" + far + ")", x.free(far), -2);
            DUE.is("chain(" + far + ", 0, 1)", x.chain(far, 0, 1), -2);
            DUE.is("chain(0, 0, " + far + ")", x.chain(0, 0, far), -2);
            DUE.is("swap(0, " + far + ", 0)", x.swap(0, far, 0), -2);
            DUE.is("swap(" + far + ", 1, 0)", x.swap(far, 1, 0), -2);
            DUE.is("mend(" + far + ")", x.mend(far), -2);
            DUE.is("even(" + far + ")", x.even(far), -2);
            DUE.is("full(" + far + ")", x.full(far), -2);
            DUE.is("first(" + far + ")", x.first(far), -2);
            DUE.is("count(" + far + ")", x.count(far), -2);
            DUE.is("list(" + far + ", 0)", x.list(far, 0), -2);
            DUE.is("square(" + far + ")", x.square(far), -2);
            DUE.is("hold(" + far + ")", x.hold(far), -2);
            DUE.is("at(" + far + ", 0)", x.at(far, 0), -1);
            DUE.is("at(0, " + far + ")", x.at(0, far), -1);
            DUE.is("meets(" + far + ", 0, 0)", x.meets(far, 0, 0), -2);
            DUE.is("meets(4, " + far + ", 0)", x.meets(4, far, 0), -2);
            DUE.is("meets(4, 0, " + far + ")", x.meets(4, 0, far), -2);
            DUE.is("many(" + far + ")", x.many(far), -2);
            if (far < 0 || far > 31) {
                DUE.is("need(" + far + ")", x.need(far), -2);
            }
            if (far < 0 || far > 65535) {
                DUE.is("list(0, " + far + ")", x.list(0, far), -2);
            }
        }
        numbersAre("after refusals", x, 0, 1, 0, 1, 2);
        DUE.is("many(1) after refusals", x.many(1), 5);
        DUE.is("many(2) after refusals", x.many(2), 1);
    }
}
