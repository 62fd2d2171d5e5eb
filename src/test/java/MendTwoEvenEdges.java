/** The edges of term 2: how a road is mended, a net in two heaps coloured and a colouring made even. */
final class MendTwoEvenEdges {
    private MendTwoEvenEdges() {
    }

    @Asks("A road without a NUMBER is MENDED with numbers 0 to FULL, no roads clashing, and no NUMBER above FULL being "
        + "there, in a PLAIN net: u is its FIRST post; THE FAN is a row of posts beside u, at first its SECOND post "
        + "alone; d is the least number FREE at u.")
    static void terms02MendBeginsAtTheFirstPost(Due due) {
        // The hub is post 0, whose other road makes way; told the other way round, nothing has to.
        Bench b = Bench.net(3, 0, 1, 0, 2).painted(-1, 0);
        due.is("mend(0) of the road 0 to 1", b.x().mend(0), 0);
        due.numbers(b, "the fan 1, 2", 0, 1);
        Bench turned = Bench.net(3, 1, 0, 0, 2).painted(-1, 0);
        due.is("mend(0) of the road 1 to 0", turned.x().mend(0), 1);
        due.numbers(turned, "the fan 0", 1, 0);
    }

    @Asks("with numbers 0 to FULL")
    static void terms02MendGivesFullItself(Due due) {
        // FULL is 2: the fan 1, 2 ends with 2, which is free at post 0.
        Bench b = Bench.circle(3).painted(-1, 0, 1);
        due.is("mend(0)", b.x().mend(0), 1);
        due.numbers(b, "the fan 1, 2 ending with FULL", 1, 0, 2);
    }

    @Asks("if c is FREE at u: the FAN is TURNED and ends with c.")
    static void terms02FanOfOnePost(Due due) {
        Bench b = Bench.net(3, 0, 1, 1, 2).painted(-1, 0);
        due.is("mend(0)", b.x().mend(0), 1);
        due.numbers(b, "a fan of one", 1, 0);
        Bench alone = Bench.between(1);
        due.is("mend(0) of a road alone", alone.x().mend(0), 0);
    }

    @Asks("Else the road at u with NUMBER c leads to a post w: if w is not in THE FAN, it comes behind.")
    static void terms02FanOfAllPostsBesideU(Due due) {
        // At each post of the fan the least number free is that of the road to the next; at post 4 it is 3.
        Bench b = Bench.net(8, 0, 1, 0, 2, 3, 0, 0, 4, 3, 5, 4, 6, 4, 7).painted(-1, 0, 1, 2, 0, 0, 1);
        due.is("mend(0)", b.x().mend(0), 0);
        due.numbers(b, "the fan 1, 2, 3, 4", 0, 1, 2, 3, 0, 0, 1);
    }

    @Asks("Again and again, c being the least number FREE at the last post of THE FAN")
    static void terms02FanLooksAtItsLastPost(Due due) {
        // At post 2 the numbers 0 and 1 are taken, so 2 is the least: free at post 0, the fan ends there.
        Bench b = Bench.net(5, 0, 1, 0, 2, 0, 3, 2, 4).painted(-1, 0, 1, 1);
        due.is("mend(0)", b.x().mend(0), 0);
        due.numbers(b, "the fan 1, 2", 0, 2, 1, 1);
    }

    @Asks("if before that it had no road at v, THE FAN is cut off behind v; it is TURNED then, and ends with c.")
    static void terms02FanCutOffToOnePost(Due due) {
        // The fan 2, 3, 1 comes back to 3: the chain of 0 and 2 is the road to 3 alone.
        Bench b = Bench.net(4, 0, 2, 0, 3, 0, 1).painted(-1, 0, 1);
        due.is("mend(0)", b.x().mend(0), 0);
        due.numbers(b, "the fan 2", 0, 2, 1);
    }

    @Asks("if before that it had no road at v, THE FAN is cut off behind v; it is TURNED then, and ends with c.")
    static void terms02FanCutOffToTwoPosts(Due due) {
        // The fan 1, 2, 3, 4 comes back to 3 with 1: the chain of 1 and 3 has no road at 2.
        Bench b = Bench.net(7, 0, 1, 0, 2, 0, 3, 0, 4, 3, 5, 4, 6).painted(-1, 0, 1, 2, 0, 0);
        due.is("mend(0)", b.x().mend(0), 0);
        due.numbers(b, "the fan 1, 2", 0, 1, 3, 2, 0, 0);
    }

    @Asks("Else, v being the post ahead of w in THE FAN: THE CHAIN of c and d at that road is SWAPPED")
    static void terms02FanNotCutOff(Due due) {
        // The fan 4, 3, 2 comes back to 3: the chain of 0 and 1 goes on to 4, so the whole fan is turned.
        Bench b = Bench.net(5, 0, 4, 3, 0, 0, 2, 4, 3).painted(-1, 0, 2, 1);
        due.is("mend(0)", b.x().mend(0), 1);
        due.numbers(b, "the whole fan", 1, 2, 0, 0);
    }

    @Asks("(To be TURNED, ending with c: the road from u to each post of THE FAN but the last gets the NUMBER that the "
        + "road to the next one has; that to the last one gets c.)")
    static void terms02TurnedGoesOneOn(Due due) {
        Bench b = Bench.net(6, 0, 1, 0, 2, 3, 0, 3, 4, 5, 3).painted(-1, 0, 1, 0, 2);
        due.is("mend(0)", b.x().mend(0), 0);
        due.numbers(b, "the fan 1, 2, 3 ending with 3", 0, 1, 3, 0, 2);
    }

    @Asks("In a net in TWO HEAPS all roads are COLOURED, all NUMBERS being gone first, one by one")
    static void terms02TwoForgetsTheNumbersFirst(Due due) {
        Bench b = Bench.net(3, 0, 1, 1, 2).painted(1, 0);
        due.is("two()", b.x().two(), 2);
        due.numbers(b, "two()", 0, 1);
        Bench none = Bench.posts(12);
        due.is("two() without roads", none.x().two(), 0);
    }

    @Asks("the least number below FULL that is FREE at both, if there is one")
    static void terms02TwoTakesTheLeastFreeAtBoth(Due due) {
        // Road 3 finds 1 taken at its FIRST post and 0 at its SECOND: 2 is below FULL, which is 3.
        Bench b = Bench.net(6, 0, 1, 2, 3, 2, 4, 4, 0, 0, 5);
        due.is("two()", b.x().two(), 3);
        due.numbers(b, "two()", 0, 0, 1, 2, 1);
        // With a road less FULL is 2, and 2 is not below it.
        b.x().drop();
        due.is("two() with a road less", b.x().two(), 2);
        due.numbers(b, "two() with a road less", 1, 0, 1, 0);
    }

    @Asks("else THE CHAIN of a and b at the road at the SECOND post with NUMBER a is SWAPPED, and it gets a.")
    static void terms02TwoSwapsWhenOnlyFullIsFreeAtBoth(Due due) {
        // Road 4 finds 1 at its FIRST post and 0 at its SECOND; 2 is free at both, but it is not below FULL.
        Bench b = Bench.net(6, 0, 1, 1, 2, 3, 4, 4, 5, 2, 3, 5, 0);
        due.is("two()", b.x().two(), 2);
        due.numbers(b, "two() with a swap", 0, 1, 1, 0, 0, 1);
        // Told the other way round it is the other chain that is swapped.
        Bench turned = Bench.net(6, 0, 1, 1, 2, 3, 4, 4, 5, 3, 2, 5, 0);
        due.is("two() turned", turned.x().two(), 2);
        due.numbers(turned, "two() with the other swap", 1, 0, 0, 1, 1, 0);
    }

    @Asks("with a being the least number FREE at its FIRST post, b the least FREE at its SECOND")
    static void terms02TwoSwapsTheLeastFreeOfEach(Due due) {
        // Road 7 finds 1 and 2 at its FIRST post, 0 at its SECOND: a is 0, and b is 1, not 2, which is free there too.
        Bench b = Bench.net(9, 1, 4, 4, 5, 4, 6, 7, 2, 8, 3, 0, 2, 0, 3, 0, 1);
        due.is("two()", b.x().two(), 3);
        due.numbers(b, "two() with a chain of 0 and 1", 1, 0, 2, 0, 0, 1, 2, 0);
        // Told the other way round a is 1, not 2, which is free there too, and b is 0.
        Bench turned = Bench.net(9, 1, 4, 4, 5, 4, 6, 7, 2, 8, 3, 0, 2, 0, 3, 1, 0);
        due.is("two() turned", turned.x().two(), 3);
        due.numbers(turned, "two() with a chain of 1 and 0", 0, 1, 2, 1, 0, 0, 2, 1);
    }

    @Asks("again and again")
    static void terms02EvenGoesOnWithOtherNumbers(Due due) {
        // y is 1, 2, 1, 2 in turn, as each swap makes another number that which fewest roads have.
        Bench b = Bench.apart(6).painted(0, 0, 0, 0, 0, 0);
        due.is("even(3)", b.x().even(3), 4);
        due.numbers(b, "even(3)", 1, 2, 1, 2, 0, 0);
        // x is 1 first, then 0, whose chain at road 1 has got a road of y by the first swap.
        Bench two = Bench.net(12, 0, 1, 1, 2, 3, 4, 4, 5, 6, 7, 7, 8, 9, 10).painted(1, 0, 1, 0, 1, 0, 1);
        due.is("even(3) of two numbers", two.x().even(3), 2);
        due.numbers(two, "even(3) of two numbers", 2, 0, 1, 2, 1, 0, 1);
    }

    @Asks("if x's roads are two more than y's, or more")
    static void terms02EvenNeedsTwoMore(Due due) {
        Bench same = Bench.apart(4).painted(1, 0, 1, 0);
        due.unchanged(same, "even(2) of as many", x -> x.even(2), 0);
        Bench one = Bench.apart(3).painted(1, 0, 1);
        due.unchanged(one, "even(2) with one more", x -> x.even(2), 0);
        Bench two = Bench.apart(4).painted(1, 0, 1, 1);
        due.is("even(2) with two more", two.x().even(2), 1);
        due.numbers(two, "even(2) with two more", 0, 0, 1, 1);
        Bench three = Bench.apart(5).painted(1, 1, 1, 0, 1);
        due.is("even(2) with three more", three.x().even(2), 1);
        due.numbers(three, "even(2) with three more", 0, 1, 1, 0, 1);
        Bench six = Bench.apart(6).painted(1, 1, 1, 1, 1, 1);
        due.is("even(2) with six more", six.x().even(2), 3);
        due.numbers(six, "even(2) with six more", 0, 0, 0, 1, 1, 1);
    }

    @Asks("x being the least of those numbers that most roads have, y the least of those that fewest have")
    static void terms02EvenTakesTheLeastOfSeveral(Due due) {
        Bench most = Bench.apart(4).painted(2, 2, 1, 1);
        due.is("even(3): 1 and 2 are most", most.x().even(3), 1);
        due.numbers(most, "even(3)", 2, 2, 0, 1);
        Bench fewest = Bench.apart(2).painted(1, 1);
        due.is("even(4): 0, 2 and 3 are fewest", fewest.x().even(4), 1);
        due.numbers(fewest, "even(4)", 0, 1);
        Bench last = Bench.apart(6).painted(15, 15, 15, 15, 15, 15);
        due.is("even(16)", last.x().even(16), 5);
        due.numbers(last, "even(16)", 0, 1, 2, 3, 4, 15);
    }

    @Asks("of THE CHAINS of x and y that have more roads of x than of y that with the least road is SWAPPED.")
    static void terms02EvenPassesChainsThatAreNotHeavier(Due due) {
        // The chain of roads 0 and 1 has as many of each, road 2 is one of y: road 3 is the first that will do.
        Bench b = Bench.net(12, 0, 1, 1, 2, 3, 4, 5, 6, 7, 8, 9, 10).painted(1, 0, 1, 0, 0, 0);
        due.is("even(2)", b.x().even(2), 1);
        due.numbers(b, "even(2)", 1, 0, 1, 1, 0, 0);
        // The least road of the chain may be one of y.
        Bench inside = Bench.net(6, 1, 2, 0, 1, 2, 3, 4, 5).painted(1, 0, 0, 0);
        due.is("even(2) of a chain of three", inside.x().even(2), 1);
        due.numbers(inside, "even(2) of a chain of three", 0, 1, 1, 0);
    }

    @Asks("A colouring (each road has a NUMBER, none clash) is made EVEN in numbers 0 to n - 1, when it has no others")
    static void terms02EvenOfTheGreatestNumber(Due due) {
        Bench b = Bench.apart(2).painted(3, 3);
        due.refused(b, "even(3) with 3 there", x -> x.even(3));
        due.is("even(4) with 3 there", b.x().even(4), 1);
        due.numbers(b, "even(4)", 0, 3);
        due.is("even(1) without roads", Bench.posts(12).x().even(1), 0);
    }
}
