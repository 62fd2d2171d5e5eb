/** The edges of promises 1 to 10: posts, roads and their numbers. */
final class NetEdges {
    private NetEdges() {
    }

    @Asks("No posts, roads, square.")
    static void promise01NoPosts(Due due) {
        due.is("many(0)", Bench.fresh().x().many(0), 0);
        due.is("roads(0)", Bench.fresh().x().roads(0), -2);
        due.is("free(0)", Bench.fresh().x().free(0), -2);
        due.is("road(0, 1)", Bench.fresh().x().road(0, 1), -2);
        due.is("heap()", Bench.fresh().x().heap(), -1);
        due.is("need(7)", Bench.fresh().x().need(7), -2);
        due.is("the first post", Bench.fresh().x().post(), 0);
    }

    @Asks("No posts, roads, square.")
    static void promise01NoRoads(Due due) {
        due.is("many(1)", Bench.fresh().x().many(1), 0);
        due.is("drop()", Bench.fresh().x().drop(), -2);
        due.is("paint(0, 0)", Bench.fresh().x().paint(0, 0), -2);
        due.is("of(0, 0)", Bench.fresh().x().of(0, 0), -2);
        due.is("list(0, 0)", Bench.fresh().x().list(0, 0), -2);
        due.is("mend(0)", Bench.fresh().x().mend(0), -2);
        due.is("wash()", Bench.fresh().x().wash(), 0);
        due.is("clash()", Bench.fresh().x().clash(), -1);
        due.is("full(0)", Bench.fresh().x().full(0), 0);
        due.is("full(3)", Bench.fresh().x().full(3), 0);
    }

    @Asks("No posts, roads, square.")
    static void promise01NoSquare(Due due) {
        due.is("many(2)", Bench.fresh().x().many(2), 0);
        due.is("at(0, 0)", Bench.fresh().x().at(0, 0), -1);
        due.is("rows()", Bench.fresh().x().rows(), -2);
        due.is("on()", Bench.fresh().x().on(), -2);
        due.is("hold(1)", Bench.fresh().x().hold(1), -2);
        due.is("square(2)", Bench.fresh().x().square(2), -1);
    }

    @Asks("No posts, roads, square.")
    static void promise01ObjectsShareNothing(Due due) {
        Bench one = Bench.circle(5);
        Bench other = Bench.fresh();
        one.x().square(3);
        one.x().on();
        due.same("what a second object holds", other.state(), Bench.fresh().state());
        other.x().post();
        other.x().square(2);
        due.is("posts of the first", one.x().many(0), 5);
        due.is("rows of the first", one.x().many(2), 1);
    }

    @Asks("A new post: its number.")
    static void promise02PostsInOrder(Due due) {
        Bench b = Bench.fresh();
        for (int p = 0; p < 12; p++) {
            due.is("post()", b.x().post(), p);
            due.is("how many", b.x().many(0), p + 1);
            due.is("its roads", b.x().roads(p), 0);
        }
    }

    @Asks("-2 when there are 12.")
    static void promise02The13thIsRefused(Due due) {
        Bench b = Bench.circle(12);
        due.refused(b, "post() with 12", RoadColours::post);
        due.refused(b, "post() with 12 again", RoadColours::post);
        due.is("many(0)", b.x().many(0), 12);
    }

    @Asks("A new road: its number.")
    static void promise03RoadsInOrder(Due due) {
        Bench b = Bench.posts(12);
        for (int r = 0; r < 24; r++) {
            due.is("road()", b.x().road(r % 12, (r + 5) % 12), r);
        }
        for (int r = 0; r < 24; r++) {
            due.is("FIRST of " + r, b.x().of(r, 0), r % 12);
            due.is("SECOND of " + r, b.x().of(r, 1), (r + 5) % 12);
        }
    }

    @Asks("-2 when a or b is no post, they are the same, or there are 24.")
    static void promise03TheFirstIsNoPost(Due due) {
        Bench b = Bench.net(3, 0, 1);
        due.refused(b, "road(3, 0)", x -> x.road(3, 0));
        due.refused(b, "road(-1, 0)", x -> x.road(-1, 0));
        due.refused(b, "road(12, 0)", x -> x.road(12, 0));
        due.refused(b, "road(32, 1)", x -> x.road(32, 1));
        due.refused(b, "road(least, 0)", x -> x.road(Integer.MIN_VALUE, 0));
        due.refused(b, "road(greatest, 0)", x -> x.road(Integer.MAX_VALUE, 0));
        due.is("road(2, 0)", b.x().road(2, 0), 1);
    }

    @Asks("-2 when a or b is no post, they are the same, or there are 24.")
    static void promise03TheSecondIsNoPost(Due due) {
        Bench b = Bench.net(3, 0, 1);
        due.refused(b, "road(0, 3)", x -> x.road(0, 3));
        due.refused(b, "road(0, -1)", x -> x.road(0, -1));
        due.refused(b, "road(0, 12)", x -> x.road(0, 12));
        due.refused(b, "road(1, 32)", x -> x.road(1, 32));
        due.refused(b, "road(0, least)", x -> x.road(0, Integer.MIN_VALUE));
        due.refused(b, "road(0, greatest)", x -> x.road(0, Integer.MAX_VALUE));
        due.is("road(0, 2)", b.x().road(0, 2), 1);
        Bench all = Bench.posts(12);
        due.is("road(0, 11)", all.x().road(0, 11), 0);
        due.refused(all, "road(11, 12)", x -> x.road(11, 12));
    }

    @Asks("they are the same")
    static void promise03ThePostsAreTheSame(Due due) {
        Bench b = Bench.posts(12);
        due.refused(b, "road(0, 0)", x -> x.road(0, 0));
        due.refused(b, "road(11, 11)", x -> x.road(11, 11));
        due.is("roads(0)", b.x().roads(0), 0);
        due.is("road(11, 0)", b.x().road(11, 0), 0);
    }

    @Asks("there are 24.")
    static void promise03The25thIsRefused(Due due) {
        Bench b = Bench.between(23);
        due.is("the 24th", b.x().road(2, 3), 23);
        due.refused(b, "the 25th", x -> x.road(2, 3));
        b.x().drop();
        due.is("the 24th again", b.x().road(4, 5), 23);
        due.is("the 25th again", b.x().road(4, 5), -2);
    }

    @Asks("The latest road goes: how many are left.")
    static void promise04FromAllToNone(Due due) {
        Bench b = Bench.between(24);
        for (int left = 23; left >= 0; left--) {
            due.is("drop()", b.x().drop(), left);
            due.is("many(1)", b.x().many(1), left);
            due.is("roads(0)", b.x().roads(0), left);
            due.is("roads(1)", b.x().roads(1), left);
        }
        due.is("posts stay", b.x().many(0), 12);
    }

    @Asks("The latest road goes: how many are left.")
    static void promise04TheLatestAloneGoes(Due due) {
        Bench b = Bench.net(4, 0, 1, 1, 2, 2, 3).painted(4, 5, 5);
        b.x().list(1, 9);
        due.is("clash() before", b.x().clash(), 1);
        due.is("drop()", b.x().drop(), 2);
        due.numbers(b, "drop()", 4, 5);
        due.is("LIST of road 1", b.x().of(1, 3), 9);
        due.is("of(2, 0)", b.x().of(2, 0), -2);
        due.is("clash() after", b.x().clash(), -1);
        due.is("free(2)", b.x().free(2), 0);
        due.is("free(3)", b.x().free(3), 0);
        due.is("its number comes again", b.x().road(3, 0), 2);
        due.is("without a NUMBER", b.x().of(2, 2), -1);
        due.is("with all in its LIST", b.x().of(2, 3), 65535);
    }

    @Asks("The latest road goes: how many are left.")
    static void promise04NothingOfItIsLeftForTheNext(Due due) {
        Bench b = Bench.net(6, 0, 1, 2, 3, 1, 2).painted(0, 0, 0);
        due.is("clash() with a road between the two", b.x().clash(), 0);
        b.x().drop();
        due.is("the next one, elsewhere", b.x().road(4, 5), 2);
        b.x().paint(2, 0);
        due.is("clash() without a road between them", b.x().clash(), -1);
        due.is("chain() of one of them", b.x().chain(0, 0, 1), 1);
        due.is("least() of roads apart", b.x().least(), 1);
        due.is("count(2) of roads apart", b.x().count(2), 8);
    }

    @Asks("-2 when there is none.")
    static void promise04NoneLeft(Due due) {
        due.refused(Bench.fresh(), "drop() of a new object", RoadColours::drop);
        Bench b = Bench.net(3, 0, 1);
        due.is("drop() of the only one", b.x().drop(), 0);
        due.refused(b, "drop() of none", RoadColours::drop);
        due.is("road(1, 2)", b.x().road(1, 2), 0);
    }

    @Asks("A road gets a NUMBER, or none (-1), whatever clashes: what it had.")
    static void promise05WhatItHad(Due due) {
        Bench b = Bench.between(24);
        due.is("paint(23, 0)", b.x().paint(23, 0), -1);
        due.is("paint(23, 15)", b.x().paint(23, 15), 0);
        due.is("paint(23, 15) again", b.x().paint(23, 15), 15);
        due.is("paint(23, -1)", b.x().paint(23, -1), 15);
        due.is("paint(23, -1) again", b.x().paint(23, -1), -1);
        due.is("of(23, 2)", b.x().of(23, 2), -1);
    }

    @Asks("whatever clashes")
    static void promise05WhateverClashes(Due due) {
        Bench b = Bench.between(2);
        due.is("paint(0, 3)", b.x().paint(0, 3), -1);
        due.is("paint(1, 3)", b.x().paint(1, 3), -1);
        due.numbers(b, "painting what clashes", 3, 3);
        due.is("clash()", b.x().clash(), 0);
        b.x().list(0, 0);
        due.is("paint(0, 5), which is not in its LIST", b.x().paint(0, 5), 3);
        due.numbers(b, "painting what is not listed", 5, 3);
    }

    @Asks("-2 when there is no such road")
    static void promise05NoSuchRoad(Due due) {
        Bench b = Bench.net(3, 0, 1, 1, 2).painted(1, 2);
        due.refused(b, "paint(2, 0)", x -> x.paint(2, 0));
        due.refused(b, "paint(-1, 0)", x -> x.paint(-1, 0));
        due.refused(b, "paint(24, 0)", x -> x.paint(24, 0));
        due.refused(b, "paint(2, -1)", x -> x.paint(2, -1));
        due.refused(b, "paint(least, 0)", x -> x.paint(Integer.MIN_VALUE, 0));
        due.refused(b, "paint(greatest, 0)", x -> x.paint(Integer.MAX_VALUE, 0));
        b.x().drop();
        due.refused(b, "paint(1, 0) of a dropped one", x -> x.paint(1, 0));
    }

    @Asks("or n is not -1..15.")
    static void promise05NoSuchNumber(Due due) {
        Bench b = Bench.net(3, 0, 1, 1, 2).painted(1, 2);
        due.refused(b, "paint(0, 16)", x -> x.paint(0, 16));
        due.refused(b, "paint(0, -2)", x -> x.paint(0, -2));
        due.refused(b, "paint(0, least)", x -> x.paint(0, Integer.MIN_VALUE));
        due.refused(b, "paint(0, greatest)", x -> x.paint(0, Integer.MAX_VALUE));
    }

    @Asks("All roads have no NUMBER: how many had one.")
    static void promise06FromNoneToAll(Due due) {
        due.is("wash() without roads", Bench.posts(2).x().wash(), 0);
        Bench none = Bench.between(3);
        due.is("wash() of no numbers", none.x().wash(), 0);
        Bench some = Bench.net(4, 0, 1, 1, 2, 2, 3).painted(-1, 0, 15);
        due.is("wash() of some", some.x().wash(), 2);
        due.numbers(some, "wash()", -1, -1, -1);
        due.is("wash() again", some.x().wash(), 0);
        Bench all = Bench.between(24).painted(new int[24]);
        due.is("wash() of all 24", all.x().wash(), 24);
        due.is("full(3)", all.x().full(3), 0);
    }

    @Asks("All roads have no NUMBER: how many had one.")
    static void promise06ListsStay(Due due) {
        Bench b = Bench.net(2, 0, 1).painted(3);
        b.x().list(0, 8);
        due.is("wash()", b.x().wash(), 1);
        due.is("its LIST", b.x().of(0, 3), 8);
        due.is("many(1)", b.x().many(1), 1);
    }

    @Asks("Of a road: 0 its FIRST post, 1 its SECOND, 2 its NUMBER, 3 its LIST (a bit for each number).")
    static void promise07EachWhat(Due due) {
        Bench b = Bench.net(12, 0, 1, 11, 4);
        b.x().paint(1, 15);
        b.x().list(1, 1 << 15 | 1);
        due.is("of(1, 0)", b.x().of(1, 0), 11);
        due.is("of(1, 1)", b.x().of(1, 1), 4);
        due.is("of(1, 2)", b.x().of(1, 2), 15);
        due.is("of(1, 3)", b.x().of(1, 3), 32769);
        due.is("of(0, 2) without a NUMBER", b.x().of(0, 2), -1);
        due.is("of(0, 3) at first", b.x().of(0, 3), 65535);
    }

    @Asks("-2 when there is no such road or what.")
    static void promise07NoSuchRoad(Due due) {
        Bench b = Bench.between(24);
        for (int what = 0; what < 4; what++) {
            due.is("of(24, " + what + ")", b.x().of(24, what), -2);
            due.is("of(-1, " + what + ")", b.x().of(-1, what), -2);
            due.is("of(least, " + what + ")", b.x().of(Integer.MIN_VALUE, what), -2);
            due.is("of(greatest, " + what + ")", b.x().of(Integer.MAX_VALUE, what), -2);
        }
        b.x().drop();
        due.is("of(23, 0) of a dropped one", b.x().of(23, 0), -2);
        due.is("of(22, 0)", b.x().of(22, 0), 0);
        due.is("of(0, 0) without roads", Bench.posts(2).x().of(0, 0), -2);
    }

    @Asks("-2 when there is no such road or what.")
    static void promise07NoSuchWhat(Due due) {
        Bench b = Bench.between(1).painted(0);
        due.refused(b, "of(0, 4)", x -> x.of(0, 4));
        due.refused(b, "of(0, -1)", x -> x.of(0, -1));
        due.refused(b, "of(0, least)", x -> x.of(0, Integer.MIN_VALUE));
        due.refused(b, "of(0, greatest)", x -> x.of(0, Integer.MAX_VALUE));
    }

    @Asks("How many roads a post has.")
    static void promise08FromNoneToAll(Due due) {
        Bench b = Bench.between(24);
        due.is("a FIRST post of all", b.x().roads(0), 24);
        due.is("a SECOND post of all", b.x().roads(1), 24);
        due.is("a post of none", b.x().roads(11), 0);
        b.x().drop();
        b.x().road(11, 0);
        due.is("one less as SECOND", b.x().roads(1), 23);
        due.is("one as FIRST", b.x().roads(11), 1);
        due.is("as many as before", b.x().roads(0), 24);
    }

    @Asks("-2 when there is none such.")
    static void promise08NoSuchPost(Due due) {
        due.refused(Bench.fresh(), "roads(0) without posts", x -> x.roads(0));
        Bench b = Bench.circle(3);
        due.refused(b, "roads(3)", x -> x.roads(3));
        due.refused(b, "roads(-1)", x -> x.roads(-1));
        due.refused(b, "roads(least)", x -> x.roads(Integer.MIN_VALUE));
        due.refused(b, "roads(greatest)", x -> x.roads(Integer.MAX_VALUE));
        due.refused(Bench.posts(12), "roads(12)", x -> x.roads(12));
    }

    @Asks("The least number FREE at a post (16 when all are taken).")
    static void promise09AllAreTaken(Due due) {
        Bench b = Bench.between(17);
        for (int n = 15; n >= 1; n--) {
            b.x().paint(15 - n, n);
            due.is("free(0) from 15 down to " + n, b.x().free(0), 0);
        }
        b.x().paint(15, 0);
        due.is("free(0) with all taken", b.x().free(0), 16);
        due.is("free(1) with all taken", b.x().free(1), 16);
        due.is("free(2) elsewhere", b.x().free(2), 0);
        b.x().paint(16, 15);
        due.is("free(0) with one taken twice", b.x().free(0), 16);
        b.x().paint(0, -1);
        due.is("free(0) with 15 taken by another still", b.x().free(0), 16);
        b.x().paint(16, -1);
        due.is("free(0) with 15 free", b.x().free(0), 15);
    }

    @Asks("The least number FREE at a post")
    static void promise09LeastFreeFromZeroOn(Due due) {
        Bench b = Bench.between(16);
        for (int r = 0; r < 16; r++) {
            due.is("free(0) with " + r + " taken", b.x().free(0), r);
            b.x().paint(r, r);
        }
        b.x().paint(8, -1);
        due.is("free(1) with a gap", b.x().free(1), 8);
    }

    @Asks("-2 when there is no such post.")
    static void promise09NoSuchPost(Due due) {
        due.refused(Bench.fresh(), "free(0) without posts", x -> x.free(0));
        Bench b = Bench.circle(3);
        due.refused(b, "free(3)", x -> x.free(3));
        due.refused(b, "free(-1)", x -> x.free(-1));
        due.refused(b, "free(least)", x -> x.free(Integer.MIN_VALUE));
        due.refused(b, "free(greatest)", x -> x.free(Integer.MAX_VALUE));
        due.refused(Bench.posts(12), "free(12)", x -> x.free(12));
    }

    @Asks("The least road that CLASHES with another one")
    static void promise10TheLeastOfAll(Due due) {
        Bench b = Bench.between(24);
        b.x().paint(22, 15);
        b.x().paint(23, 15);
        due.is("the last two", b.x().clash(), 22);
        b.x().paint(3, 0);
        b.x().paint(20, 0);
        due.is("a lesser one with one far behind", b.x().clash(), 3);
        b.x().paint(0, 15);
        due.is("the first with the last", b.x().clash(), 0);
    }

    @Asks("-1 when none does.")
    static void promise10NoneClashes(Due due) {
        due.is("without roads", Bench.posts(3).x().clash(), -1);
        due.is("one road", Bench.between(1).painted(0).x().clash(), -1);
        due.is("16 numbers at a post", Bench.between(16).painted(0, 1, 2, 3, 4, 5, 6, 7, 8, 9, 10, 11, 12, 13, 14, 15)
            .x().clash(), -1);
        due.is("roads without numbers", Bench.between(24).x().clash(), -1);
        due.unchanged(Bench.circle(4).painted(0, 1, 0, 1), "clash()", RoadColours::clash, -1);
    }
}
