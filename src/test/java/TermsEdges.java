import java.util.function.ToLongFunction;

/** The edges that the terms name, but for those of term 2, which are in MendTwoEvenEdges. */
final class TermsEdges {
    private TermsEdges() {
    }

    /** So many posts, roads and rows that even calls without arguments are refused. */
    private static Bench crowded() {
        Bench b = Bench.net(12, 0, 1, 1, 2, 2, 0, 3, 4, 4, 5, 5, 6, 6, 7, 7, 8, 8, 9, 9, 10, 10, 11, 11, 3, 3, 5);
        b.painted(0, 1, 2, -1, 15, 3, 4, 5, 0, 1, 0, 2, 9);
        b.x().list(4, 0);
        b.x().list(12, 32769);
        b.x().square(2);
        b.x().on();
        b.x().on();
        return b;
    }

    private static void refusedWhenCrowded(Due due, String what, ToLongFunction<RoadColours> call) {
        due.refused(crowded(), what, call);
    }

    @Asks("-2 is what a refused call answers; it changes nothing.")
    static void terms00RefusedOnTheNetChangesNothing(Due due) {
        refusedWhenCrowded(due, "post()", RoadColours::post);
        refusedWhenCrowded(due, "road(3, 3)", x -> x.road(3, 3));
        refusedWhenCrowded(due, "paint(0, 16)", x -> x.paint(0, 16));
        refusedWhenCrowded(due, "of(0, 4)", x -> x.of(0, 4));
        refusedWhenCrowded(due, "roads(12)", x -> x.roads(12));
        refusedWhenCrowded(due, "free(12)", x -> x.free(12));
        refusedWhenCrowded(due, "chain(0, 0, 0)", x -> x.chain(0, 0, 0));
        refusedWhenCrowded(due, "swap(0, 0, 0)", x -> x.swap(0, 0, 0));
        refusedWhenCrowded(due, "mend(3)", x -> x.mend(3));
        refusedWhenCrowded(due, "two()", RoadColours::two);
        refusedWhenCrowded(due, "even(16)", x -> x.even(16));
        refusedWhenCrowded(due, "full(4)", x -> x.full(4));
        due.refused(Bench.posts(3), "drop()", RoadColours::drop);
    }

    @Asks("-2 is what a refused call answers; it changes nothing.")
    static void terms00RefusedSearchesAndSquaresChangeNothing(Due due) {
        refusedWhenCrowded(due, "least()", RoadColours::least);
        refusedWhenCrowded(due, "first(3)", x -> x.first(3));
        refusedWhenCrowded(due, "count(3)", x -> x.count(3));
        refusedWhenCrowded(due, "critical()", RoadColours::critical);
        refusedWhenCrowded(due, "need(3)", x -> x.need(3));
        refusedWhenCrowded(due, "list(0, 65536)", x -> x.list(0, 65536));
        refusedWhenCrowded(due, "choose()", RoadColours::choose);
        refusedWhenCrowded(due, "square(10)", x -> x.square(10));
        refusedWhenCrowded(due, "hold(1)", x -> x.hold(1));
        refusedWhenCrowded(due, "on()", RoadColours::on);
        refusedWhenCrowded(due, "rows()", RoadColours::rows);
        refusedWhenCrowded(due, "meets(3, 0, 0)", x -> x.meets(3, 0, 0));
        refusedWhenCrowded(due, "many(3)", x -> x.many(3));
    }

    @Asks("What is wrong is asked in the order in which it is told.")
    static void terms00SeveralThingsWrongAtOnce(Due due) {
        refusedWhenCrowded(due, "road(12, 12)", x -> x.road(12, 12));
        refusedWhenCrowded(due, "paint(13, 16)", x -> x.paint(13, 16));
        refusedWhenCrowded(due, "of(13, 4)", x -> x.of(13, 4));
        refusedWhenCrowded(due, "chain(13, 16, 16)", x -> x.chain(13, 16, 16));
        refusedWhenCrowded(due, "swap(-1, -1, -1)", x -> x.swap(-1, -1, -1));
        refusedWhenCrowded(due, "swap(3, -1, 0)", x -> x.swap(3, -1, 0));
        refusedWhenCrowded(due, "mend(13)", x -> x.mend(13));
        refusedWhenCrowded(due, "even(0)", x -> x.even(0));
        refusedWhenCrowded(due, "first(17)", x -> x.first(17));
        refusedWhenCrowded(due, "count(10)", x -> x.count(10));
        refusedWhenCrowded(due, "need(4096)", x -> x.need(4096));
        refusedWhenCrowded(due, "list(13, -1)", x -> x.list(13, -1));
        refusedWhenCrowded(due, "hold(22)", x -> x.hold(22));
        refusedWhenCrowded(due, "meets(21, 21, 21)", x -> x.meets(21, 21, 21));
        Bench full = Bench.between(24);
        due.refused(full, "road(12, -1) with 24", x -> x.road(12, -1));
        Bench wide = Bench.between(17);
        wide.x().road(1, 2);
        wide.x().road(2, 0);
        due.refused(wide, "two() of no two heaps and above 16", RoadColours::two);
        due.refused(Bench.fresh(), "hold(-1) without a square", x -> x.hold(-1));
    }

    @Asks("POSTS are numbered from 0, 12 at most.")
    static void terms01PostsFromZeroToEleven(Due due) {
        Bench b = Bench.fresh();
        due.is("the first post", b.x().post(), 0);
        for (int p = 1; p < 11; p++) {
            b.x().post();
        }
        due.is("the last post", b.x().post(), 11);
        due.is("roads of post 11", b.x().roads(11), 0);
        due.is("no post 12", b.x().post(), -2);
        due.is("roads of post 12", b.x().roads(12), -2);
    }

    @Asks("ROADS are numbered from 0, 24 at most, each from a FIRST post to a SECOND, another one; there can be several "
        + "between two posts.")
    static void terms01RoadsFromZeroToTwentyThree(Due due) {
        Bench b = Bench.posts(2);
        due.is("a road to its own post", b.x().road(1, 1), -2);
        due.is("the first road", b.x().road(1, 0), 0);
        for (int r = 1; r < 23; r++) {
            b.x().road(0, 1);
        }
        due.is("the last road", b.x().road(1, 0), 23);
        due.is("no road 24", b.x().road(1, 0), -2);
        due.is("FIRST of road 0", b.x().of(0, 0), 1);
        due.is("SECOND of road 0", b.x().of(0, 1), 0);
        due.is("FIRST of road 22", b.x().of(22, 0), 0);
        due.is("SECOND of road 23", b.x().of(23, 1), 0);
    }

    @Asks("FULL is the most roads that a post has.")
    static void terms01FullFromNoneToAll(Due due) {
        due.is("FULL without posts", Bench.fresh().x().full(0), 0);
        due.is("FULL without roads", Bench.posts(12).x().full(0), 0);
        due.is("FULL of one road", Bench.between(1).x().full(0), 1);
        due.is("FULL of 24 between two posts", Bench.between(24).x().full(0), 24);
        due.is("FULL at a FIRST post", Bench.net(4, 3, 0, 3, 1, 3, 2).x().full(0), 3);
        due.is("FULL at the last post, a SECOND", Bench.net(12, 0, 11, 1, 11, 2, 11, 3, 4, 4, 5).x().full(0), 3);
        Bench less = Bench.between(24);
        less.x().drop();
        due.is("FULL with one dropped", less.x().full(0), 23);
    }

    @Asks("The net is PLAIN if no two roads join the same posts")
    static void terms01PlainFromNoneToBothWays(Due due) {
        due.is("PLAIN without posts", Bench.fresh().x().full(2), 1);
        due.is("PLAIN with one road", Bench.net(2, 0, 1).x().full(2), 1);
        due.is("two the same way", Bench.net(2, 0, 1, 0, 1).x().full(2), 0);
        due.is("two, there and back", Bench.net(2, 0, 1, 1, 0).x().full(2), 0);
        due.is("roads that share one post", Bench.net(4, 0, 1, 1, 2, 2, 3, 3, 0, 0, 2).x().full(2), 1);
        due.is("the first and the last alike", Bench.net(12, 10, 11, 1, 2, 2, 3, 11, 10).x().full(2), 0);
        Bench b = Bench.net(3, 0, 1, 1, 2, 1, 0);
        b.x().drop();
        due.is("the second one dropped", b.x().full(2), 1);
    }

    @Asks("it is in TWO HEAPS if posts can be parted in two so that each road joins one of each.")
    static void terms01TwoHeapsFromNoneToOddCircles(Due due) {
        due.is("no posts", Bench.fresh().x().heaps(), 1);
        due.is("a post alone", Bench.posts(1).x().heaps(), 1);
        due.is("24 between two posts", Bench.between(24).x().heaps(), 1);
        for (int posts = 3; posts <= 12; posts++) {
            due.is("a circle of " + posts, Bench.circle(posts).x().heaps(), posts % 2 == 0 ? 1 : 0);
        }
        due.is("a way through all posts", Bench.net(12, 5, 0, 0, 7, 7, 1, 1, 11, 11, 2, 2, 9, 9, 3, 3, 10, 10, 4,
            4, 8, 8, 6).x().heaps(), 1);
        due.is("the way made an odd circle", Bench.net(12, 5, 0, 0, 7, 7, 1, 1, 11, 11, 2, 2, 9, 9, 3, 3, 10, 10, 4,
            4, 8, 8, 5).x().heaps(), 0);
        due.is("a triangle of the last posts", Bench.net(12, 0, 1, 9, 10, 10, 11, 11, 9).x().heaps(), 0);
    }

    @Asks("A road has a NUMBER 0 to 15, or none (-1, at first).")
    static void terms01NumbersFromNoneToFifteen(Due due) {
        Bench b = Bench.net(2, 0, 1);
        due.is("at first", b.x().of(0, 2), -1);
        b.x().paint(0, 0);
        due.is("the least", b.x().of(0, 2), 0);
        b.x().paint(0, 15);
        due.is("the greatest", b.x().of(0, 2), 15);
        b.x().paint(0, -1);
        due.is("none again", b.x().of(0, 2), -1);
        b.x().paint(0, 7);
        b.x().drop();
        b.x().road(0, 1);
        due.is("none at a road that comes again", b.x().of(0, 2), -1);
    }

    @Asks("Roads CLASH if they have a post in common and the same NUMBER.")
    static void terms01ClashNeedsAPostAndANumber(Due due) {
        due.is("no numbers in common: none is no NUMBER", Bench.between(24).x().clash(), -1);
        due.is("no post in common", Bench.apart(6).painted(15, 15, 15, 15, 15, 15).x().clash(), -1);
        due.is("FIRST posts the same", Bench.net(3, 0, 1, 0, 2).painted(15, 15).x().clash(), 0);
        due.is("SECOND posts the same", Bench.net(3, 0, 1, 2, 1).painted(0, 0).x().clash(), 0);
        due.is("one's SECOND the other's FIRST", Bench.net(3, 0, 1, 1, 2).painted(3, 3).x().clash(), 0);
        due.is("one's FIRST the other's SECOND", Bench.net(3, 1, 0, 2, 1).painted(3, 3).x().clash(), 0);
        due.is("both posts the same", Bench.between(2).painted(8, 8).x().clash(), 0);
        due.is("another number", Bench.between(2).painted(8, 9).x().clash(), -1);
        due.is("one has none", Bench.between(2).painted(8, -1).x().clash(), -1);
    }

    @Asks("A number is FREE at a post if none of its roads has it.")
    static void terms01FreeLooksAtThePostsOwnRoads(Due due) {
        Bench b = Bench.net(4, 0, 1, 1, 2, 2, 3).painted(0, 1, 0);
        due.is("at a FIRST post", b.x().free(0), 1);
        due.is("at a post between", b.x().free(1), 2);
        due.is("at a SECOND post", b.x().free(3), 1);
        b.x().wash();
        due.is("when no road has a number", b.x().free(1), 0);
        b.painted(1, 1, -1);
        due.is("below the least taken", b.x().free(1), 0);
    }

    @Asks("THE CHAIN of numbers x and y (not the same) at a road that has one of them: the roads with NUMBER x or y "
        + "that hang together with it by posts that they share.")
    static void terms01ChainsFromOneToAll(Due due) {
        due.is("a road alone", Bench.between(1).painted(0).x().chain(0, 0, 15), 1);
        due.is("24 that clash", Bench.between(24).painted(new int[24]).x().chain(23, 1, 0), 24);
        due.is("round a circle", Bench.circle(12).painted(0, 1, 0, 1, 0, 1, 0, 1, 0, 1, 0, 1).x().chain(11, 0, 1), 12);
        Bench way = Bench.net(12, 11, 10, 0, 1, 9, 10, 1, 2, 9, 8, 2, 3).painted(0, 0, 1, 1, 0, 0);
        due.is("a way against the roads' order", way.x().chain(4, 0, 1), 3);
        due.is("the other way, apart", way.x().chain(1, 0, 1), 3);
        Bench gap = Bench.net(5, 0, 1, 1, 2, 2, 3, 3, 4).painted(0, 2, 0, 1);
        due.is("a road with another number parts it", gap.x().chain(0, 0, 1), 1);
        due.is("the other part", gap.x().chain(3, 0, 1), 2);
        Bench none = Bench.net(4, 0, 1, 1, 2, 2, 3).painted(0, -1, 1);
        due.is("a road without a number parts it", none.x().chain(0, 0, 1), 1);
    }

    @Asks("To SWAP it: those with x get y, those with y get x.")
    static void terms01SwapThereAndBack(Due due) {
        Bench b = Bench.net(6, 0, 1, 1, 2, 2, 3, 4, 5).painted(0, 15, 0, 0);
        due.is("swap(1, 0, 15)", b.x().swap(1, 0, 15), 3);
        due.numbers(b, "a swap", 15, 0, 15, 0);
        due.is("swap(0, 0, 15)", b.x().swap(0, 0, 15), 3);
        due.numbers(b, "swapping back", 0, 15, 0, 0);
        due.is("swap(2, 0, 7)", b.x().swap(2, 0, 7), 1);
        due.numbers(b, "swapping with a number that is not there", 0, 15, 7, 0);
    }

    @Asks("THE LEAST is the least n for which each road can get a number below n, none clashing")
    static void terms03LeastFromNoneToTwelve(Due due) {
        due.is("without roads", Bench.posts(12).x().least(), 0);
        due.is("roads apart", Bench.apart(6).x().least(), 1);
        due.is("an even circle", Bench.circle(12).x().least(), 2);
        due.is("an odd circle", Bench.circle(11).x().least(), 3);
        due.is("twelve between two posts", Bench.between(12).x().least(), 12);
        due.is("a triangle of twelve", Bench.net(3, 0, 1, 0, 1, 0, 1, 0, 1, 1, 2, 1, 2, 1, 2, 1, 2, 2, 0, 2, 0, 2, 0,
            2, 0).x().least(), 12);
    }

    @Asks("THE FIRST colouring for n numbers is that with the lesser NUMBER at the first road at which two differ.")
    static void terms03FirstIsLeastFromTheFirstRoadOn(Due due) {
        Bench way = Bench.net(5, 0, 1, 3, 4, 1, 2, 2, 3);
        due.is("first(2)", way.x().first(2), 1);
        due.numbers(way, "first(2): what is behind forces road 1", 0, 1, 1, 0);
        due.is("first(3)", way.x().first(3), 1);
        due.numbers(way, "first(3): road 1 can be less, so road 3 is more", 0, 0, 1, 2);
    }

    @Asks("ROADS have LISTS, sets of numbers 0 to 15 (all, at first).")
    static void terms03ListsFromNoneToAll(Due due) {
        Bench b = Bench.net(2, 0, 1);
        due.is("all, at first", b.x().of(0, 3), 65535);
        b.x().list(0, 0);
        due.is("none", b.x().of(0, 3), 0);
        b.x().list(0, 32768);
        due.is("15 alone", b.x().of(0, 3), 32768);
        b.x().drop();
        b.x().road(0, 1);
        due.is("all, at a road that comes again", b.x().of(0, 3), 65535);
    }

    @Asks("A HEAP is a set of 3 or more posts.")
    static void terms03HeapsFromThreeToTwelvePosts(Due due) {
        Bench b = Bench.circle(12);
        due.refused(b, "need() of no posts", x -> x.need(0));
        due.refused(b, "need() of one post", x -> x.need(2048));
        due.refused(b, "need() of two posts", x -> x.need(2049));
        due.is("need() of three posts", b.x().need(2051), 2);
        due.is("need() of twelve posts", b.x().need(4095), 2);
    }

    @Asks("Its NEED: the roads between its posts by half of its posts cut down, the fraction taken up to the next "
        + "whole number.")
    static void terms03NeedIsCutDownAndTakenUp(Due due) {
        Bench b = Bench.net(6, 0, 1, 0, 1, 0, 1, 1, 2, 2, 3);
        due.is("five by half of four: up", b.x().need(15), 3);
        due.is("four by half of three, cut down", b.x().need(7), 4);
        due.is("five by half of five, cut down", b.x().need(31), 3);
        due.is("five by half of six", b.x().need(63), 2);
        b.x().road(4, 5);
        due.is("six by half of six: whole, so not taken up", b.x().need(63), 2);
        due.is("a road with one post outside is not between", b.x().need(0b001110), 2);
        due.is("no roads between", b.x().need(0b101010), 0);
    }

    @Asks("THE BOUND is the greatest of FULL and all NEEDS (0 without roads).")
    static void terms03BoundFromNoneOn(Due due) {
        due.is("without posts", Bench.fresh().x().full(1), 0);
        due.is("without roads", Bench.posts(12).x().full(1), 0);
        due.is("two posts have no HEAP", Bench.net(2, 0, 1, 0, 1).x().full(1), 2);
        due.is("FULL above all NEEDS", Bench.net(5, 0, 1, 0, 2, 0, 3, 0, 4).x().full(1), 4);
        due.is("a NEED above FULL", Bench.circle(3).x().full(1), 3);
        due.is("the NEED of the last posts", Bench.net(12, 0, 1, 9, 10, 10, 11, 11, 9, 9, 10).x().full(1), 4);
        due.is("the NEED of all posts of a circle of 11", Bench.circle(11).x().full(1), 3);
    }

    @Asks("THE SQUARE has a size s, 2 to 9 (none at first), and rows 0, 1, .. so far, s at most, each with the numbers "
        + "0 to s - 1 once, none where a row above has it.")
    static void terms04SquaresFromNoneToNine(Due due) {
        Bench b = Bench.fresh();
        due.is("no rows without a square", b.x().many(2), 0);
        due.is("none at first", b.x().square(2), -1);
        due.is("row 0", b.x().hold(10), 1);
        due.is("a number where the row above has it", b.x().hold(10), -2);
        due.is("row 1", b.x().hold(1), 2);
        due.is("s rows at most", b.x().hold(1), -2);
        due.is("the greatest size", b.x().square(9), 2);
        due.is("its greatest row", b.x().hold(876543210), 1);
        due.is("a number that comes twice", b.x().hold(12354677), -2);
        for (int row = 1; row < 9; row++) {
            b.x().on();
        }
        due.is("nine rows", b.x().many(2), 9);
        due.is("a tenth", b.x().on(), -2);
        for (int c = 0; c < 9; c++) {
            int seen = 0;
            for (int r = 0; r < 9; r++) {
                seen |= 1 << b.x().at(r, c);
            }
            due.is("the numbers of column " + c, seen, 511);
        }
    }

    @Asks("WEEKS of m, an even number 2 to 20: in week w (0 to m - 2) m - 1 meets w, and of the others those i and j "
        + "meet for which i + j less 2 w is a multiple of m - 1.")
    static void terms04WeeksOfTwoToTwenty(Due due) {
        Bench b = Bench.fresh();
        due.is("two: 0 meets 1", b.x().meets(2, 0, 0), 1);
        due.is("two: 1 meets 0", b.x().meets(2, 0, 1), 0);
        due.is("the last meets week 0", b.x().meets(20, 0, 19), 0);
        due.is("the last meets the last week", b.x().meets(20, 18, 19), 18);
        due.is("week 0 meets the last", b.x().meets(20, 0, 0), 19);
        due.is("the last week meets the last", b.x().meets(20, 18, 18), 19);
        due.is("the multiple is 0", b.x().meets(20, 9, 18), 0);
        due.is("the multiple is above 0", b.x().meets(20, 0, 18), 1);
        due.is("the multiple is below 0", b.x().meets(20, 18, 0), 17);
    }
}
