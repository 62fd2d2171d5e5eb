/** What the document says ahead of its terms: what the bench is for, and for how many calls an object is used. */
final class BenchEdges {
    private BenchEdges() {
    }

    @Asks("A bench for nets of posts and roads whose roads get numbers so that no two at a post are alike: chains "
        + "swapped, a road put in by a fan and one swap, nets in two heaps coloured with as few numbers as their fullest "
        + "post has roads, the fewest numbers and the first such colouring, heaps that show more are needed, colourings "
        + "counted, roads with lists, numbers made even, squares of numbers carried on row by row, and weeks of meetings.")
    static void bench00AllThatItIsForOnOneObject(Due due) {
        Bench b = Bench.net(5, 0, 1, 1, 2, 2, 3, 3, 4);
        due.is("two() of a way", b.x().two(), 2);
        due.numbers(b, "two()", 0, 1, 0, 1);
        due.is("swap(2, 0, 1)", b.x().swap(2, 0, 1), 4);
        due.numbers(b, "swap(2, 0, 1)", 1, 0, 1, 0);
        due.is("the circle closed", b.x().road(4, 0), 4);
        due.is("mend(4) by the fan 0, 3", b.x().mend(4), 0);
        due.numbers(b, "mend(4)", 1, 0, 1, 2, 0);
        due.is("even(5)", b.x().even(5), 2);
        due.numbers(b, "even(5)", 4, 3, 1, 2, 0);
        due.is("least()", b.x().least(), 3);
        due.is("first(3)", b.x().first(3), 1);
        due.numbers(b, "first(3)", 0, 1, 0, 1, 2);
        due.is("heap() shows that 2 are too few", b.x().need(b.x().heap()), 3);
        due.is("count(3)", b.x().count(3), 30);
        due.is("list(0, 8)", b.x().list(0, 8), 65535);
        due.is("choose()", b.x().choose(), 1);
        due.numbers(b, "choose()", 3, 0, 1, 0, 1);
        due.is("square(2)", b.x().square(2), -1);
        due.is("on()", b.x().on(), 1);
        due.is("on() again", b.x().on(), 10);
        due.is("meets(4, 0, 1)", b.x().meets(4, 0, 1), 2);
        due.numbers(b, "squares and weeks", 3, 0, 1, 0, 1);
    }

    @Asks("An object is used for at most 512 calls after it has been made")
    static void bench00TheLastOfTheCalls(Due due) {
        Bench b = Bench.circle(5);
        b.x().square(9);
        while (b.callsLeft() > 12) {
            b.x().paint(b.callsLeft() % 5, -1);
        }
        due.is("the 501st call", b.x().first(3), 1);
        due.is("the 502nd call", b.x().count(3), 30);
        due.is("the 503rd call", b.x().critical(), 1);
        due.is("the 504th call", b.x().heap(), 31);
        due.is("the 505th call", b.x().on(), 12345678);
        due.is("the 506th call", b.x().rows(), 133496);
        due.is("the 507th call", b.x().even(3), 0);
        due.is("the 508th call", b.x().paint(4, -1), 2);
        due.is("the 509th call", b.x().mend(4), 1);
        due.is("the 510th call", b.x().choose(), 1);
        due.is("the 511th call", b.x().of(4, 2), 2);
        due.is("the 512th call", b.x().post(), 5);
        due.is("calls left", b.callsLeft(), 0);
    }

    /** Whatever they answer, they must end and not throw, as the language's rule 7 has it. */
    @Asks("what later calls answer is free.")
    static void bench00LaterCallsEnd(Due due) {
        RoadColours x = new RoadColours();
        int ended = 0;
        for (int call = 0; call < 5_000; call++) {
            x.post();
            x.road(call % 12, (call + 5) % 12);
            x.mend(call % 24);
            x.square(2 + call % 8);
            x.on();
            ended++;
        }
        due.is("rounds of calls that ended", ended, 5_000);
    }
}
