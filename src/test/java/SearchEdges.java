/** The edges of promises 18 to 25: THE LEAST, THE FIRST, counts, critical nets, heaps and lists. */
final class SearchEdges {
    private static final int LEAST = Integer.MIN_VALUE;
    private static final int GREATEST = Integer.MAX_VALUE;

    private SearchEdges() {
    }

    /** A circle of twelve roads with numbers, and one road more if it is asked for. */
    private static Bench twelveOrThirteen(boolean thirteen) {
        Bench b = Bench.circle(12).painted(5, 5, 5, 5, 5, 5, 5, 5, 5, 5, 5, -1);
        if (thirteen) {
            b.x().road(0, 6);
        }
        return b;
    }

    @Asks("THE LEAST.")
    static void promise18FromNoneToTwelve(Due due) {
        due.is("least() without posts", Bench.fresh().x().least(), 0);
        due.is("least() without roads", Bench.posts(12).x().least(), 0);
        due.is("least() of one road", Bench.between(1).x().least(), 1);
        for (int roads = 2; roads <= 12; roads++) {
            due.is("least() of " + roads + " between two", Bench.between(roads).x().least(), roads);
        }
        due.unchanged(Bench.circle(5).painted(7, 7, 7, 7, 7), "least() of five", RoadColours::least, 3);
        // Four at each post of five, but no number goes to more than two of the ten roads.
        Bench five = Bench.net(5, 0, 1, 0, 2, 0, 3, 0, 4, 1, 2, 1, 3, 1, 4, 2, 3, 2, 4, 3, 4);
        due.is("least() of all roads of five posts", five.x().least(), 5);
    }

    @Asks("-2 when there are more than 12 roads.")
    static void promise18MoreThanTwelveRoads(Due due) {
        due.unchanged(twelveOrThirteen(false), "least() of 12 roads", RoadColours::least, 2);
        due.refused(twelveOrThirteen(true), "least() of 13 roads", RoadColours::least);
        due.refused(Bench.between(24), "least() of 24 roads", RoadColours::least);
        Bench b = twelveOrThirteen(true);
        b.x().drop();
        due.is("least() of 12 roads again", b.x().least(), 2);
    }

    @Asks("The roads get THE FIRST colouring for n numbers: 1")
    static void promise19FromNoneToSixteen(Due due) {
        Bench none = Bench.posts(3);
        due.is("first(0) without roads", none.x().first(0), 1);
        due.is("first(16) without roads", none.x().first(16), 1);
        Bench one = Bench.between(1).painted(9);
        due.is("first(1) of one road", one.x().first(1), 1);
        due.numbers(one, "first(1)", 0);
        Bench wide = Bench.between(12);
        due.is("first(12) of twelve between two", wide.x().first(12), 1);
        due.numbers(wide, "first(12)", 0, 1, 2, 3, 4, 5, 6, 7, 8, 9, 10, 11);
        wide.x().wash();
        due.is("first(16) of twelve between two", wide.x().first(16), 1);
        due.numbers(wide, "first(16)", 0, 1, 2, 3, 4, 5, 6, 7, 8, 9, 10, 11);
    }

    @Asks("The roads get THE FIRST colouring for n numbers: 1")
    static void promise19NumbersAndListsDoNotMatter(Due due) {
        Bench b = Bench.circle(4).painted(15, 15, 15, -1);
        b.x().list(0, 0);
        b.x().list(1, 32768);
        due.is("first(2)", b.x().first(2), 1);
        due.numbers(b, "first(2)", 0, 1, 0, 1);
        due.is("LIST of road 1", b.x().of(1, 3), 32768);
    }

    @Asks("0 when there is none (nothing changes then).")
    static void promise19ThereIsNone(Due due) {
        due.unchanged(Bench.between(1).painted(9), "first(0) of one road", x -> x.first(0), 0);
        due.unchanged(Bench.circle(5).painted(9, 8, 7, -1, 9), "first(2) of five", x -> x.first(2), 0);
        due.unchanged(Bench.between(12).painted(3, -1, 3), "first(11) of twelve", x -> x.first(11), 0);
        // Only the last two roads are too many, when all the others have got theirs.
        Bench late = Bench.net(12, 0, 1, 2, 3, 4, 5, 6, 7, 8, 9, 8, 10, 8, 11).painted(1, 2, 3, 4, 5, 6, 7);
        due.unchanged(late, "first(2) of three at the last post", x -> x.first(2), 0);
    }

    @Asks("-2 when n is not 0..16")
    static void promise19NoSuchN(Due due) {
        Bench b = Bench.circle(4).painted(9, 8, 7, -1);
        due.refused(b, "first(-1)", x -> x.first(-1));
        due.refused(b, "first(17)", x -> x.first(17));
        due.refused(b, "first(32)", x -> x.first(32));
        due.refused(b, "first(least)", x -> x.first(LEAST));
        due.refused(b, "first(greatest)", x -> x.first(GREATEST));
        due.refused(Bench.fresh(), "first(-1) without roads", x -> x.first(-1));
        due.refused(Bench.fresh(), "first(17) without roads", x -> x.first(17));
    }

    @Asks("or there are more than 12 roads.")
    static void promise19MoreThanTwelveRoads(Due due) {
        due.refused(twelveOrThirteen(true), "first(16) of 13 roads", x -> x.first(16));
        due.refused(twelveOrThirteen(true), "first(0) of 13 roads", x -> x.first(0));
        due.refused(Bench.between(24), "first(16) of 24 roads", x -> x.first(16));
        Bench b = twelveOrThirteen(false);
        due.is("first(2) of 12 roads", b.x().first(2), 1);
        due.numbers(b, "first(2)", 0, 1, 0, 1, 0, 1, 0, 1, 0, 1, 0, 1);
    }

    @Asks("How many colourings in n numbers there are.")
    static void promise20FromNoneToMoreThanAnInt(Due due) {
        due.is("count(0) without roads", Bench.fresh().x().count(0), 1);
        due.is("count(9) without roads", Bench.posts(3).x().count(9), 1);
        due.is("count(0) of one road", Bench.between(1).x().count(0), 0);
        due.is("count(1) of one road", Bench.between(1).x().count(1), 1);
        due.is("count(9) of one road", Bench.between(1).x().count(9), 9);
        due.is("count(1) of two between two", Bench.between(2).x().count(1), 0);
        due.is("count(9) of nine between two", Bench.between(9).x().count(9), 362880);
        due.is("count(9) of ten between two", Bench.between(10).x().count(9), 0);
        Bench pairs = Bench.apart(6);
        for (int p = 0; p < 12; p += 2) {
            pairs.x().road(p + 1, p);
        }
        due.is("count(9) of six pairs", pairs.x().count(9), 139314069504L);
        due.is("count(2) of six pairs", pairs.x().count(2), 64);
        due.is("count(9) of a circle of 12", Bench.circle(12).x().count(9), 68719476744L);
    }

    @Asks("How many colourings in n numbers there are.")
    static void promise20ChangesNothing(Due due) {
        Bench b = Bench.circle(5).painted(9, 9, -1, 2, 3);
        b.x().list(0, 0);
        due.unchanged(b, "count(3) whatever the numbers and lists", x -> x.count(3), 30);
        due.unchanged(b, "count(2)", x -> x.count(2), 0);
    }

    @Asks("-2 when n is not 0..9")
    static void promise20NoSuchN(Due due) {
        Bench b = Bench.circle(3);
        due.refused(b, "count(-1)", x -> x.count(-1));
        due.refused(b, "count(10)", x -> x.count(10));
        due.refused(b, "count(16)", x -> x.count(16));
        due.refused(b, "count(least)", x -> x.count(LEAST));
        due.refused(b, "count(greatest)", x -> x.count(GREATEST));
        due.refused(Bench.fresh(), "count(-1) without roads", x -> x.count(-1));
        due.refused(Bench.fresh(), "count(10) without roads", x -> x.count(10));
    }

    @Asks("or there are more than 12 roads.")
    static void promise20MoreThanTwelveRoads(Due due) {
        due.refused(twelveOrThirteen(true), "count(0) of 13 roads", x -> x.count(0));
        due.refused(twelveOrThirteen(true), "count(9) of 13 roads", x -> x.count(9));
        due.refused(Bench.between(24), "count(9) of 24 roads", x -> x.count(9));
        due.is("count(2) of 12 roads", twelveOrThirteen(false).x().count(2), 2);
    }

    @Asks("1 if THE LEAST is above FULL, and with any one road taken away THE LEAST is not above what FULL was, else 0.")
    static void promise21AboveFullOrNot(Due due) {
        due.is("without posts", Bench.fresh().x().critical(), 0);
        due.is("without roads", Bench.posts(12).x().critical(), 0);
        due.is("one road", Bench.between(1).x().critical(), 0);
        due.is("an even circle", Bench.circle(4).x().critical(), 0);
        due.is("twelve between two", Bench.between(12).x().critical(), 0);
        due.unchanged(Bench.circle(3).painted(6, 6, -1), "a triangle", RoadColours::critical, 1);
        due.is("a circle of 11", Bench.circle(11).x().critical(), 1);
        due.is("a triangle with a road at a post", Bench.net(4, 0, 1, 1, 2, 2, 0, 0, 3).x().critical(), 0);
    }

    @Asks("with any one road taken away THE LEAST is not above what FULL was")
    static void promise21AnyOneRoadTakenAway(Due due) {
        due.is("a road apart behind", Bench.net(5, 0, 1, 1, 2, 2, 0, 3, 4).x().critical(), 0);
        due.is("a road apart ahead", Bench.net(5, 3, 4, 0, 1, 1, 2, 2, 0).x().critical(), 0);
        due.is("two circles", Bench.net(6, 0, 1, 1, 2, 2, 0, 3, 4, 4, 5, 5, 3).x().critical(), 0);
        // Without the last road FULL is 3 and THE LEAST 4: not above 4, which FULL was.
        due.is("a triangle of 2, 2 and 1", Bench.net(3, 0, 1, 0, 1, 1, 2, 1, 2, 2, 0).x().critical(), 1);
        due.is("a triangle of 2, 2 and 2", Bench.net(3, 0, 1, 0, 1, 1, 2, 1, 2, 2, 0, 2, 0).x().critical(), 0);
        // Petersen's net without one post: 12 roads, and no heap shows that four numbers are needed.
        Bench twelve = Bench.net(9, 0, 1, 1, 2, 2, 3, 0, 5, 1, 6, 2, 7, 3, 8, 5, 7, 7, 4, 4, 6, 6, 8, 8, 5);
        due.is("twelve roads", twelve.x().critical(), 1);
    }

    @Asks("-2 when there are more than 12 roads.")
    static void promise21MoreThanTwelveRoads(Due due) {
        due.unchanged(twelveOrThirteen(false), "critical() of 12 roads", RoadColours::critical, 0);
        due.refused(twelveOrThirteen(true), "critical() of 13 roads", RoadColours::critical);
        due.refused(Bench.between(24), "critical() of 24 roads", RoadColours::critical);
    }

    @Asks("The NEED of a HEAP (a bit for each post).")
    static void promise22BitsForPosts(Due due) {
        Bench b = Bench.net(12, 0, 1, 9, 10, 10, 11, 11, 9, 11, 9);
        due.is("the first posts", b.x().need(0b000000000111), 1);
        due.is("the last posts", b.x().need(0b111000000000), 4);
        due.is("all posts", b.x().need(0b111111111111), 1);
        due.is("without roads between", b.x().need(0b000001110000), 0);
        due.unchanged(b, "need(4095)", x -> x.need(4095), 1);
    }

    @Asks("-2 when a bit is for no post")
    static void promise22ABitForNoPost(Due due) {
        Bench b = Bench.circle(4);
        due.is("need(15)", b.x().need(15), 2);
        due.refused(b, "need(16 + 7)", x -> x.need(16 + 7));
        due.refused(b, "need(16 + 15)", x -> x.need(16 + 15));
        due.refused(b, "need(-1)", x -> x.need(-1));
        due.refused(b, "need(least + 7)", x -> x.need(LEAST + 7));
        due.refused(b, "need(greatest)", x -> x.need(GREATEST));
        due.refused(Bench.posts(12), "need(4096 + 7)", x -> x.need(4096 + 7));
        due.refused(Bench.posts(2), "need(7) of two posts", x -> x.need(7));
        due.refused(Bench.fresh(), "need(7) without posts", x -> x.need(7));
    }

    @Asks("or there are not 3 posts.")
    static void promise22NotThreePosts(Due due) {
        Bench b = Bench.circle(4);
        due.refused(b, "need(0)", x -> x.need(0));
        due.refused(b, "need(8)", x -> x.need(8));
        due.refused(b, "need(3)", x -> x.need(3));
        due.refused(b, "need(9)", x -> x.need(9));
        due.refused(Bench.between(1), "need(3) of 12 posts", x -> x.need(3));
        due.refused(Bench.net(2, 0, 1), "need(3) of two posts", x -> x.need(3));
        due.is("need(7)", b.x().need(7), 2);
        due.is("need(14)", b.x().need(14), 2);
    }

    @Asks("The HEAP with the greatest NEED, of such the one that is least as a number")
    static void promise23TheLeastOfTheGreatest(Due due) {
        due.is("without roads", Bench.posts(12).x().heap(), 7);
        due.is("three posts", Bench.posts(3).x().heap(), 7);
        Bench two = Bench.net(6, 0, 1, 1, 2, 2, 0, 3, 4, 4, 5, 5, 3);
        due.unchanged(two, "heap() of two triangles", RoadColours::heap, 7);
        two.x().road(3, 4);
        due.is("the greater NEED behind", two.x().heap(), 56);
        due.is("the last posts", Bench.net(12, 9, 10, 10, 11, 11, 9).x().heap(), 0b111000000000);
        due.is("a third post is any", Bench.net(12, 0, 11, 11, 0, 5, 6).x().heap(), 0b100000000011);
        due.is("all of five posts", Bench.circle(5).x().heap(), 31);
        due.is("all of eleven posts", Bench.circle(11).x().heap(), 2047);
    }

    @Asks("-1 when there are not 3 posts.")
    static void promise23NotThreePosts(Due due) {
        due.unchanged(Bench.fresh(), "heap() without posts", RoadColours::heap, -1);
        due.unchanged(Bench.posts(1), "heap() of one post", RoadColours::heap, -1);
        due.unchanged(Bench.net(2, 0, 1, 1, 0), "heap() of two posts", RoadColours::heap, -1);
        due.is("heap() of three posts", Bench.net(3, 0, 1).x().heap(), 7);
    }

    @Asks("A road's LIST becomes this: what it was.")
    static void promise24WhatItWas(Due due) {
        Bench b = Bench.between(24).painted(3);
        due.is("list(23, 0)", b.x().list(23, 0), 65535);
        due.is("list(23, 65535)", b.x().list(23, 65535), 0);
        due.is("list(23, 32768)", b.x().list(23, 32768), 65535);
        due.is("list(23, 32768) again", b.x().list(23, 32768), 32768);
        due.is("of(23, 3)", b.x().of(23, 3), 32768);
        due.is("of(22, 3)", b.x().of(22, 3), 65535);
        due.is("list(0, 1) without its number", b.x().list(0, 1), 65535);
        due.is("its number stays", b.x().of(0, 2), 3);
    }

    @Asks("-2 when there is no such road")
    static void promise24NoSuchRoad(Due due) {
        Bench b = Bench.net(3, 0, 1, 1, 2);
        due.refused(b, "list(2, 1)", x -> x.list(2, 1));
        due.refused(b, "list(-1, 1)", x -> x.list(-1, 1));
        due.refused(b, "list(24, 1)", x -> x.list(24, 1));
        due.refused(b, "list(least, 1)", x -> x.list(LEAST, 1));
        due.refused(b, "list(greatest, 1)", x -> x.list(GREATEST, 1));
        b.x().drop();
        due.refused(b, "list(1, 1) of a dropped one", x -> x.list(1, 1));
    }

    @Asks("or list is not 0..65535.")
    static void promise24NoSuchList(Due due) {
        Bench b = Bench.net(3, 0, 1, 1, 2);
        b.x().list(0, 5);
        due.refused(b, "list(0, 65536)", x -> x.list(0, 65536));
        due.refused(b, "list(0, -1)", x -> x.list(0, -1));
        due.refused(b, "list(0, least)", x -> x.list(0, LEAST));
        due.refused(b, "list(0, greatest)", x -> x.list(0, GREATEST));
    }

    @Asks("The roads get the first colouring (as in 3) in which each has a number of its LIST: 1")
    static void promise25FromNoRoadsToEight(Due due) {
        due.is("choose() without posts", Bench.fresh().x().choose(), 1);
        due.is("choose() without roads", Bench.posts(3).x().choose(), 1);
        Bench all = Bench.between(8).painted(15, 15, 15);
        due.is("choose() of eight", all.x().choose(), 1);
        due.numbers(all, "choose() from all numbers", 0, 1, 2, 3, 4, 5, 6, 7);
        Bench far = Bench.between(2);
        far.x().list(0, 32768);
        far.x().list(1, 32768 + 1);
        due.is("choose() of 15", far.x().choose(), 1);
        due.numbers(far, "choose() of 15", 15, 0);
        Bench just = Bench.between(8);
        for (int r = 0; r < 8; r++) {
            just.x().list(r, r == 0 ? 255 : 127);
        }
        due.is("choose() with just one that can have 7", just.x().choose(), 1);
        due.numbers(just, "choose() with just one that can have 7", 7, 0, 1, 2, 3, 4, 5, 6);
    }

    @Asks("0 when there is none (nothing changes then).")
    static void promise25ThereIsNone(Due due) {
        Bench empty = Bench.apart(3).painted(4, 5, -1);
        empty.x().list(2, 0);
        due.unchanged(empty, "choose() with an empty list", RoadColours::choose, 0);
        Bench same = Bench.net(12, 4, 5, 6, 7, 0, 1, 1, 2).painted(1, 2, 3, 4);
        same.x().list(2, 32768);
        same.x().list(3, 32768);
        due.unchanged(same, "choose() with 15 alone for two", RoadColours::choose, 0);
        Bench eight = Bench.between(8).painted(8, 8, 8, 8, 8, 8, 8, 8);
        for (int r = 0; r < 8; r++) {
            eight.x().list(r, 127);
        }
        due.unchanged(eight, "choose() of seven numbers for eight", RoadColours::choose, 0);
    }

    @Asks("-2 when there are more than 8 roads.")
    static void promise25MoreThanEightRoads(Due due) {
        Bench b = Bench.between(8);
        b.x().road(2, 3);
        due.refused(b, "choose() of nine roads", RoadColours::choose);
        due.refused(Bench.between(24), "choose() of 24 roads", RoadColours::choose);
        b.x().list(8, 0);
        due.refused(b, "choose() of nine roads with an empty list", RoadColours::choose);
        b.x().drop();
        due.is("choose() of eight roads again", b.x().choose(), 1);
    }
}
