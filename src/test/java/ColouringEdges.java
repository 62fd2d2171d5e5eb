/** The edges of promises 11 to 17: chains, mending, two heaps, even numbers and FULL. */
final class ColouringEdges {
    private static final int LEAST = Integer.MIN_VALUE;
    private static final int GREATEST = Integer.MAX_VALUE;

    private ColouringEdges() {
    }

    private static Bench way() {
        return Bench.net(5, 0, 1, 1, 2, 2, 3, 3, 4).painted(0, 1, 15, -1);
    }

    @Asks("How many roads THE CHAIN of x and y at a road has.")
    static void promise11CountsAndChangesNothing(Due due) {
        Bench b = way();
        due.unchanged(b, "chain(0, 0, 1)", x -> x.chain(0, 0, 1), 2);
        due.unchanged(b, "chain(0, 1, 0)", x -> x.chain(0, 1, 0), 2);
        due.unchanged(b, "chain(2, 15, 0)", x -> x.chain(2, 15, 0), 1);
        due.unchanged(b, "chain(2, 1, 15)", x -> x.chain(2, 1, 15), 2);
    }

    @Asks("-2 when there is no such road")
    static void promise11NoSuchRoad(Due due) {
        Bench b = way();
        due.refused(b, "chain(4, 0, 1)", x -> x.chain(4, 0, 1));
        due.refused(b, "chain(-1, 0, 1)", x -> x.chain(-1, 0, 1));
        due.refused(b, "chain(24, 0, 1)", x -> x.chain(24, 0, 1));
        due.refused(b, "chain(least, 0, 1)", x -> x.chain(LEAST, 0, 1));
        due.refused(b, "chain(greatest, 0, 1)", x -> x.chain(GREATEST, 0, 1));
        due.refused(Bench.posts(2), "chain(0, 0, 1) without roads", x -> x.chain(0, 0, 1));
    }

    @Asks("x or y is not 0..15")
    static void promise11NoSuchNumber(Due due) {
        Bench b = way();
        due.refused(b, "chain(0, 0, 16)", x -> x.chain(0, 0, 16));
        due.refused(b, "chain(0, 16, 0)", x -> x.chain(0, 16, 0));
        due.refused(b, "chain(0, 0, -1)", x -> x.chain(0, 0, -1));
        due.refused(b, "chain(0, -1, 0)", x -> x.chain(0, -1, 0));
        due.refused(b, "chain(0, 0, 32)", x -> x.chain(0, 0, 32));
        due.refused(b, "chain(0, least, 0)", x -> x.chain(0, LEAST, 0));
        due.refused(b, "chain(0, 0, greatest)", x -> x.chain(0, 0, GREATEST));
        due.is("chain(2, 15, 0)", b.x().chain(2, 15, 0), 1);
    }

    @Asks("they are the same")
    static void promise11TheNumbersAreTheSame(Due due) {
        Bench b = way();
        due.refused(b, "chain(0, 0, 0)", x -> x.chain(0, 0, 0));
        due.refused(b, "chain(2, 15, 15)", x -> x.chain(2, 15, 15));
    }

    @Asks("or the road has neither.")
    static void promise11TheRoadHasNeither(Due due) {
        Bench b = way();
        due.refused(b, "chain(0, 1, 2) has 0", x -> x.chain(0, 1, 2));
        due.refused(b, "chain(3, 0, 1) has none", x -> x.chain(3, 0, 1));
        due.refused(b, "chain(3, -1, 0) has none, and -1 is no number", x -> x.chain(3, -1, 0));
        due.refused(b, "chain(3, 0, -1) has none, and -1 is no number", x -> x.chain(3, 0, -1));
    }

    @Asks("THE CHAIN is SWAPPED: how many roads it has.")
    static void promise12FromOneToAll(Due due) {
        Bench one = Bench.apart(2).painted(0, 0);
        due.is("swap(1, 0, 15)", one.x().swap(1, 0, 15), 1);
        due.numbers(one, "swapping one", 0, 15);
        Bench round = Bench.circle(12).painted(0, 1, 0, 1, 0, 1, 0, 1, 0, 1, 0, 1);
        due.is("swap(5, 0, 1)", round.x().swap(5, 0, 1), 12);
        due.numbers(round, "swapping a circle", 1, 0, 1, 0, 1, 0, 1, 0, 1, 0, 1, 0);
        Bench alike = Bench.between(24).painted(new int[24]);
        due.is("swap(0, 3, 0)", alike.x().swap(0, 3, 0), 24);
        due.is("of(23, 2)", alike.x().of(23, 2), 3);
    }

    @Asks("-2 as of chain().")
    static void promise12NoSuchRoad(Due due) {
        Bench b = way();
        due.refused(b, "swap(4, 0, 1)", x -> x.swap(4, 0, 1));
        due.refused(b, "swap(-1, 0, 1)", x -> x.swap(-1, 0, 1));
        due.refused(b, "swap(24, 0, 1)", x -> x.swap(24, 0, 1));
        due.refused(b, "swap(least, 0, 1)", x -> x.swap(LEAST, 0, 1));
        due.refused(b, "swap(greatest, 0, 1)", x -> x.swap(GREATEST, 0, 1));
    }

    @Asks("-2 as of chain().")
    static void promise12NoSuchNumber(Due due) {
        Bench b = way();
        due.refused(b, "swap(0, 0, 16)", x -> x.swap(0, 0, 16));
        due.refused(b, "swap(0, 16, 0)", x -> x.swap(0, 16, 0));
        due.refused(b, "swap(0, 0, -1)", x -> x.swap(0, 0, -1));
        due.refused(b, "swap(0, -1, 0)", x -> x.swap(0, -1, 0));
        due.refused(b, "swap(0, 0, greatest)", x -> x.swap(0, 0, GREATEST));
        due.refused(b, "swap(0, least, 0)", x -> x.swap(0, LEAST, 0));
    }

    @Asks("-2 as of chain().")
    static void promise12TheSameOrNeither(Due due) {
        Bench b = way();
        due.refused(b, "swap(0, 0, 0)", x -> x.swap(0, 0, 0));
        due.refused(b, "swap(0, 1, 2) has 0", x -> x.swap(0, 1, 2));
        due.refused(b, "swap(3, 0, 1) has none", x -> x.swap(3, 0, 1));
        due.refused(b, "swap(3, -1, 0) has none, and -1 is no number", x -> x.swap(3, -1, 0));
    }

    @Asks("A road is MENDED: its NUMBER.")
    static void promise13ItsNumber(Due due) {
        Bench b = Bench.net(12, 0, 11).painted(-1);
        due.is("mend(0)", b.x().mend(0), 0);
        due.numbers(b, "mend(0)", 0);
        Bench star = Bench.posts(12);
        for (int p = 1; p < 12; p++) {
            star.x().road(0, p);
        }
        for (int r = 0; r < 11; r++) {
            int given = star.x().mend(r);
            due.is("mend(" + r + ") of a star of 11", star.x().of(r, 2), given);
        }
        due.is("clash() of the star", star.x().clash(), -1);
        due.is("numbers at its post", star.x().full(3), 11);
    }

    @Asks("A road is MENDED: its NUMBER.")
    static void promise13AllRoadsOfAFullPlainNet(Due due) {
        // 24 roads with FULL 4: each can be mended, none has a number above FULL.
        Bench b = Bench.posts(12);
        for (int p = 0; p < 12; p++) {
            b.x().road(p, (p + 1) % 12);
            b.x().road((p + 3) % 12, p);
        }
        due.is("full(0)", b.x().full(0), 4);
        for (int r = 23; r >= 0; r--) {
            int given = b.x().mend(r);
            due.is("mend(" + r + ")", b.x().of(r, 2), given);
            due.holds("mend(" + r + ") is 0 to FULL", given >= 0 && given <= 4);
            due.is("clash() after mend(" + r + ")", b.x().clash(), -1);
        }
        for (int r = 0; r < 24; r++) {
            int number = b.x().of(r, 2);
            due.holds("the number of road " + r + " is 0 to FULL", number >= 0 && number <= 4);
        }
    }

    @Asks("-2 when there is no such road")
    static void promise13NoSuchRoad(Due due) {
        Bench b = Bench.net(3, 0, 1, 1, 2);
        due.refused(b, "mend(2)", x -> x.mend(2));
        due.refused(b, "mend(-1)", x -> x.mend(-1));
        due.refused(b, "mend(24)", x -> x.mend(24));
        due.refused(b, "mend(least)", x -> x.mend(LEAST));
        due.refused(b, "mend(greatest)", x -> x.mend(GREATEST));
        due.refused(Bench.posts(2), "mend(0) without roads", x -> x.mend(0));
    }

    @Asks("it has a NUMBER")
    static void promise13ItHasANumber(Due due) {
        Bench b = Bench.net(3, 0, 1, 1, 2).painted(0, -1);
        due.refused(b, "mend(0) with 0", x -> x.mend(0));
        due.is("mend(1)", b.x().mend(1), 0);
        due.numbers(b, "mend(1)", 1, 0);
        due.refused(b, "mend(1) again", x -> x.mend(1));
    }

    @Asks("some roads CLASH")
    static void promise13SomeRoadsClash(Due due) {
        Bench b = Bench.net(6, 0, 1, 2, 3, 3, 4).painted(-1, 1, 1);
        due.refused(b, "mend(0) with a clash elsewhere", x -> x.mend(0));
        b.x().paint(2, 0);
        due.is("mend(0) without it", b.x().mend(0), 0);
    }

    @Asks("a NUMBER is above FULL")
    static void promise13ANumberIsAboveFull(Due due) {
        Bench b = Bench.net(6, 0, 1, 2, 3, 3, 4).painted(-1, 3, 0);
        due.is("full(0)", b.x().full(0), 2);
        due.refused(b, "mend(0) with 3 elsewhere", x -> x.mend(0));
        b.x().paint(1, 15);
        due.refused(b, "mend(0) with 15 elsewhere", x -> x.mend(0));
        b.x().paint(1, 2);
        due.is("mend(0) with FULL itself elsewhere", b.x().mend(0), 0);
        due.numbers(b, "mend(0)", 0, 2, 0);
    }

    @Asks("or the net is not PLAIN.")
    static void promise13TheNetIsNotPlain(Due due) {
        Bench b = Bench.net(6, 0, 1, 2, 3, 3, 2);
        due.refused(b, "mend(0) with two roads elsewhere", x -> x.mend(0));
        due.refused(b, "mend(2) of one of the two", x -> x.mend(2));
        b.x().drop();
        due.is("mend(0) with one dropped", b.x().mend(0), 0);
    }

    @Asks("1 if the net is in TWO HEAPS, else 0.")
    static void promise14OneOrZero(Due due) {
        due.is("without posts", Bench.fresh().x().heaps(), 1);
        due.is("without roads", Bench.posts(12).x().heaps(), 1);
        due.unchanged(Bench.circle(3), "heaps() of a triangle", RoadColours::heaps, 0);
        due.unchanged(Bench.circle(4), "heaps() of four", RoadColours::heaps, 1);
        Bench later = Bench.net(12, 0, 1, 2, 3, 9, 10, 10, 11, 9, 11);
        due.is("a triangle apart from the rest", later.x().heaps(), 0);
        later.x().drop();
        due.is("when it is opened", later.x().heaps(), 1);
        due.is("more than 16 at a post", Bench.between(24).x().heaps(), 1);
        due.is("parts whose posts come by turns", Bench.net(8, 0, 2, 1, 3, 2, 4, 3, 5, 4, 6, 5, 7).x().heaps(), 1);
    }

    @Asks("All roads are COLOURED as in TWO HEAPS: FULL.")
    static void promise15FromNoneToSixteen(Due due) {
        due.is("two() without posts", Bench.fresh().x().two(), 0);
        due.is("two() of one road", Bench.between(1).x().two(), 1);
        Bench most = Bench.between(16);
        due.is("two() of 16", most.x().two(), 16);
        due.numbers(most, "two()", 0, 1, 2, 3, 4, 5, 6, 7, 8, 9, 10, 11, 12, 13, 14, 15);
        Bench all = Bench.posts(12);
        for (int r = 0; r < 24; r++) {
            all.x().road(r % 6, 6 + (r + r / 6) % 6);
        }
        due.is("two() of 24 roads", all.x().two(), 4);
        due.is("clash()", all.x().clash(), -1);
        for (int r = 0; r < 24; r++) {
            int number = all.x().of(r, 2);
            due.holds("the number of road " + r + " is below FULL", number >= 0 && number < 4);
        }
    }

    @Asks("-2 when the net is not in TWO HEAPS")
    static void promise15NotInTwoHeaps(Due due) {
        due.refused(Bench.circle(3).painted(4, 4, -1), "two() of a triangle", RoadColours::two);
        Bench b = Bench.net(12, 0, 1, 9, 10, 10, 11, 11, 9).painted(7, 7, 7, -1);
        due.refused(b, "two() with a triangle apart", RoadColours::two);
    }

    @Asks("or FULL is above 16.")
    static void promise15FullIsAboveSixteen(Due due) {
        Bench b = Bench.between(16);
        due.is("two() with FULL 16", b.x().two(), 16);
        b.x().road(0, 2);
        b.x().paint(16, 3);
        due.refused(b, "two() with FULL 17", RoadColours::two);
        due.refused(Bench.between(24), "two() with FULL 24", RoadColours::two);
    }

    @Asks("The colouring is made EVEN: how many SWAPS.")
    static void promise16HowManySwaps(Due due) {
        due.is("even(1) without posts", Bench.fresh().x().even(1), 0);
        due.is("even(16) without roads", Bench.posts(12).x().even(16), 0);
        due.unchanged(Bench.apart(6).painted(0, 0, 0, 0, 0, 0), "even(1) of six", x -> x.even(1), 0);
        Bench b = Bench.apart(6).painted(0, 0, 0, 0, 0, 0);
        due.is("even(6)", b.x().even(6), 5);
        due.numbers(b, "even(6)", 1, 2, 3, 4, 5, 0);
        due.unchanged(b, "even(6) again", x -> x.even(6), 0);
    }

    @Asks("-2 when n is not 1..16")
    static void promise16NoSuchN(Due due) {
        Bench b = Bench.apart(3).painted(0, 0, 0);
        due.refused(b, "even(0)", x -> x.even(0));
        due.refused(b, "even(17)", x -> x.even(17));
        due.refused(b, "even(-1)", x -> x.even(-1));
        due.refused(b, "even(least)", x -> x.even(LEAST));
        due.refused(b, "even(greatest)", x -> x.even(GREATEST));
        due.refused(Bench.fresh(), "even(0) without roads", x -> x.even(0));
        due.refused(Bench.fresh(), "even(17) without roads", x -> x.even(17));
        due.is("even(16)", b.x().even(16), 2);
        due.numbers(b, "even(16)", 1, 2, 0);
    }

    @Asks("a road has no NUMBER")
    static void promise16ARoadHasNoNumber(Due due) {
        Bench b = Bench.apart(4).painted(0, 0, 0, -1);
        due.refused(b, "even(2)", x -> x.even(2));
        b.x().paint(3, 0);
        due.is("even(2) with it", b.x().even(2), 2);
    }

    @Asks("or one of n or above")
    static void promise16ANumberOfNOrAbove(Due due) {
        Bench b = Bench.apart(4).painted(0, 0, 0, 2);
        due.refused(b, "even(2) with 2", x -> x.even(2));
        due.refused(b, "even(1) with 2", x -> x.even(1));
        due.is("even(3) with 2", b.x().even(3), 1);
        due.numbers(b, "even(3)", 1, 0, 0, 2);
        due.is("even(16) with 15", Bench.apart(1).painted(15).x().even(16), 0);
        due.is("even(15) with 15", Bench.apart(1).painted(15).x().even(15), -2);
    }

    @Asks("or some CLASH.")
    static void promise16SomeClash(Due due) {
        Bench b = Bench.net(8, 0, 1, 2, 3, 4, 5, 5, 6).painted(0, 0, 1, 1);
        due.refused(b, "even(3) with a clash", x -> x.even(3));
        b.x().paint(3, 0);
        due.is("even(3) without", b.x().even(3), 1);
    }

    @Asks("FULL (what 0), THE BOUND (1), 1 if the net is PLAIN, else 0 (2), how many roads have a NUMBER (3).")
    static void promise17FromNoneToAll(Due due) {
        Bench none = Bench.fresh();
        due.is("full(0) of none", none.x().full(0), 0);
        due.is("full(1) of none", none.x().full(1), 0);
        due.is("full(2) of none", none.x().full(2), 1);
        due.is("full(3) of none", none.x().full(3), 0);
        Bench all = Bench.between(24).painted(0, 15);
        due.is("full(0) of 24", all.x().full(0), 24);
        due.is("full(1) of 24", all.x().full(1), 24);
        due.is("full(2) of 24", all.x().full(2), 0);
        due.is("full(3) of two painted", all.x().full(3), 2);
        all.painted(new int[24]);
        due.is("full(3) of 24 painted", all.x().full(3), 24);
        Bench fat = Bench.posts(3);
        for (int r = 0; r < 24; r++) {
            fat.x().road(r % 3, (r + 1) % 3);
        }
        due.is("full(0) of a fat triangle", fat.x().full(0), 16);
        due.is("full(1) of a fat triangle", fat.x().full(1), 24);
    }

    @Asks("-2 for another what.")
    static void promise17AnotherWhat(Due due) {
        Bench b = Bench.circle(3).painted(0, 1, 2);
        due.refused(b, "full(4)", x -> x.full(4));
        due.refused(b, "full(-1)", x -> x.full(-1));
        due.refused(b, "full(least)", x -> x.full(LEAST));
        due.refused(b, "full(greatest)", x -> x.full(GREATEST));
    }
}
