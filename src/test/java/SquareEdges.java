/** The edges of promises 26 to 32: squares, weeks and how many there are. */
final class SquareEdges {
    private static final int LEAST = Integer.MIN_VALUE;
    private static final int GREATEST = Integer.MAX_VALUE;

    private SquareEdges() {
    }

    private static Bench square(int s, int... rows) {
        Bench b = Bench.fresh();
        b.x().square(s);
        for (int row : rows) {
            b.x().hold(row);
        }
        return b;
    }

    @Asks("THE SQUARE has a size from now on, and no rows: the size that it had, -1 for none.")
    static void promise26TheSizeThatItHad(Due due) {
        Bench b = Bench.fresh();
        due.is("square(2) at first", b.x().square(2), -1);
        for (int s = 3; s <= 9; s++) {
            due.is("square(" + s + ")", b.x().square(s), s - 1);
        }
        due.is("square(9) again", b.x().square(9), 9);
        due.is("square(2) again", b.x().square(2), 9);
    }

    @Asks("and no rows")
    static void promise26NoRows(Due due) {
        Bench b = square(2, 10, 1);
        due.is("square(2)", b.x().square(2), 2);
        due.is("many(2)", b.x().many(2), 0);
        due.is("at(0, 0)", b.x().at(0, 0), -1);
        due.is("rows(), nothing being above", b.x().rows(), 2);
        due.is("hold(10) as before", b.x().hold(10), 1);
        due.is("square(3)", b.x().square(3), 2);
        due.is("rows() of 3", b.x().rows(), 6);
        due.is("square(9)", b.x().square(9), 3);
        due.is("rows() of 9", b.x().rows(), 362880);
    }

    @Asks("-2 when s is not 2..9.")
    static void promise26NoSuchSize(Due due) {
        Bench none = Bench.fresh();
        due.refused(none, "square(1)", x -> x.square(1));
        due.refused(none, "square(10)", x -> x.square(10));
        due.is("still none", none.x().square(5), -1);
        Bench b = square(3, 120);
        due.refused(b, "square(1) with one there", x -> x.square(1));
        due.refused(b, "square(10) with one there", x -> x.square(10));
        due.refused(b, "square(0) with one there", x -> x.square(0));
        due.refused(b, "square(-1) with one there", x -> x.square(-1));
        due.refused(b, "square(least) with one there", x -> x.square(LEAST));
        due.refused(b, "square(greatest) with one there", x -> x.square(GREATEST));
        due.is("the size that it had", b.x().square(2), 3);
    }

    @Asks("A row more, told as a number: its digits, the first one being the highest of s digits: how many rows there are.")
    static void promise27DigitsFromTheHighestOn(Due due) {
        Bench b = Bench.fresh();
        b.x().square(3);
        due.is("hold(12), the first digit being 0", b.x().hold(12), 1);
        due.same("row 0", b.row(0), "012");
        due.is("hold(201)", b.x().hold(201), 2);
        due.same("row 1", b.row(1), "201");
        due.is("hold(120), the last row", b.x().hold(120), 3);
        due.same("row 2", b.row(2), "120");
        Bench nine = square(9);
        due.is("hold(12345678)", nine.x().hold(12345678), 1);
        due.is("hold(876503214)", nine.x().hold(876503214), 2);
        due.same("row 1 of nine", nine.row(1), "876503214");
    }

    @Asks("-2 when there is no SQUARE")
    static void promise27NoSquare(Due due) {
        due.refused(Bench.fresh(), "hold(0)", x -> x.hold(0));
        due.refused(Bench.fresh(), "hold(1)", x -> x.hold(1));
        due.refused(Bench.fresh(), "hold(12345678)", x -> x.hold(12345678));
    }

    @Asks("it has s rows")
    static void promise27ItHasAllRows(Due due) {
        due.refused(square(2, 1, 10), "hold(1) with two rows of 2", x -> x.hold(1));
        due.refused(square(3, 12, 120, 201), "hold(12) with three rows of 3", x -> x.hold(12));
        Bench nine = square(9);
        for (int row = 0; row < 9; row++) {
            nine.x().on();
        }
        due.refused(nine, "hold(12345678) with nine rows of 9", x -> x.hold(12345678));
    }

    @Asks("or the row is not as told in 4.")
    static void promise27NotTheNumbersOnce(Due due) {
        Bench b = square(3);
        due.refused(b, "hold(0)", x -> x.hold(0));
        due.refused(b, "hold(1) is 001", x -> x.hold(1));
        due.refused(b, "hold(11)", x -> x.hold(11));
        due.refused(b, "hold(13) has a 3", x -> x.hold(13));
        due.refused(b, "hold(19) has a 9", x -> x.hold(19));
        due.refused(b, "hold(310) has a 3", x -> x.hold(310));
        due.refused(b, "hold(122)", x -> x.hold(122));
        due.refused(b, "hold(220)", x -> x.hold(220));
        Bench nine = square(9);
        due.refused(nine, "hold(123456789) has a 9 and no 0", x -> x.hold(123456789));
        due.refused(nine, "hold(12345677)", x -> x.hold(12345677));
    }

    @Asks("or the row is not as told in 4.")
    static void promise27TooManyDigitsOrNegative(Due due) {
        Bench b = square(3);
        due.refused(b, "hold(1012)", x -> x.hold(1012));
        due.refused(b, "hold(3012)", x -> x.hold(3012));
        due.refused(b, "hold(10012)", x -> x.hold(10012));
        due.refused(b, "hold(1000000012)", x -> x.hold(1000000012));
        due.refused(b, "hold(-12)", x -> x.hold(-12));
        due.refused(b, "hold(-210)", x -> x.hold(-210));
        due.refused(b, "hold(-1)", x -> x.hold(-1));
        due.refused(b, "hold(least)", x -> x.hold(LEAST));
        due.refused(b, "hold(greatest)", x -> x.hold(GREATEST));
        Bench nine = square(9);
        due.refused(nine, "hold(1012345678)", x -> x.hold(1012345678));
        due.refused(nine, "hold(least)", x -> x.hold(LEAST));
        due.refused(nine, "hold(greatest)", x -> x.hold(GREATEST));
    }

    @Asks("or the row is not as told in 4.")
    static void promise27ARowAboveHasIt(Due due) {
        Bench one = square(4, 123);
        due.refused(one, "hold(231) with 0 below 0", x -> x.hold(231));
        due.refused(one, "hold(3102) with 1 below 1", x -> x.hold(3102));
        due.refused(one, "hold(1320) with 2 below 2", x -> x.hold(1320));
        due.refused(one, "hold(1203) with 3 below 3", x -> x.hold(1203));
        Bench b = square(4, 123, 1032);
        due.refused(b, "hold(3120) with 1 and 2 as in row 0 alone", x -> x.hold(3120));
        due.refused(b, "hold(2031) with 0 and 3 as in row 1 alone", x -> x.hold(2031));
        due.is("hold(2301)", b.x().hold(2301), 3);
        due.refused(b, "hold(2310) with 2 and 3 as in row 2 alone", x -> x.hold(2310));
        due.is("hold(3210)", b.x().hold(3210), 4);
    }

    @Asks("THE SQUARE goes on by the row that is least as a number: that number.")
    static void promise28TheLeastRow(Due due) {
        Bench two = square(2);
        due.is("on() of 2", two.x().on(), 1);
        due.is("on() of 2 again", two.x().on(), 10);
        Bench three = square(3, 12);
        // 1 0 2 would be less, but 2 stands above: the least number in a column is not always the row's.
        due.is("on() behind 012", three.x().on(), 120);
        due.same("row 1", three.row(1), "120");
        due.is("the only row left", three.x().on(), 201);
        Bench high = square(3, 210);
        due.is("on() behind 210", high.x().on(), 21);
        due.same("row 1 behind 210", high.row(1), "021");
        Bench nine = square(9);
        due.is("on() of 9", nine.x().on(), 12345678);
        due.is("on() of 9 again", nine.x().on(), 103254786);
        due.is("many(2)", nine.x().many(2), 2);
    }

    @Asks("THE SQUARE goes on by the row that is least as a number: that number.")
    static void promise28EachSizeToItsEnd(Due due) {
        for (int s = 2; s <= 9; s++) {
            Bench b = square(s);
            for (int row = 0; row < s; row++) {
                int ways = b.x().rows();
                due.holds("rows() of " + s + " with " + row + " is 1 or more", ways >= 1);
                due.holds("on() of " + s + " with " + row, b.x().on() > 0);
                due.is("many(2) of " + s, b.x().many(2), row + 1);
            }
            due.is("on() of a whole one of " + s, b.x().on(), -2);
            for (int c = 0; c < s; c++) {
                int seen = 0;
                for (int r = 0; r < s; r++) {
                    seen |= 1 << b.x().at(r, c);
                }
                due.is("column " + c + " of " + s, seen, (1 << s) - 1);
            }
        }
    }

    @Asks("-2 when there is no SQUARE")
    static void promise28NoSquare(Due due) {
        due.refused(Bench.fresh(), "on()", RoadColours::on);
        due.refused(Bench.circle(3), "on() with a net", RoadColours::on);
    }

    @Asks("or it has s rows.")
    static void promise28ItHasAllRows(Due due) {
        due.refused(square(2, 10, 1), "on() with two rows of 2", RoadColours::on);
        Bench b = square(3, 12, 120);
        due.is("on() with two rows of 3", b.x().on(), 201);
        due.refused(b, "on() with three rows of 3", RoadColours::on);
        b.x().square(3);
        due.is("on() of a new one", b.x().on(), 12);
    }

    @Asks("How many rows of THE SQUARE can stand next.")
    static void promise29FromOneToAll(Due due) {
        int all = 1;
        for (int s = 2; s <= 9; s++) {
            all *= s;
            due.is("rows() of " + s, square(s).x().rows(), all);
        }
        due.is("rows() of 2 with one", square(2, 10).x().rows(), 1);
        due.is("rows() of 3 with one", square(3, 120).x().rows(), 2);
        due.is("rows() of 3 with two", square(3, 120, 12).x().rows(), 1);
        due.is("rows() of 4 with one", square(4, 123).x().rows(), 9);
        due.is("rows() of 4 with two", square(4, 123, 1032).x().rows(), 4);
        due.is("rows() of 4 with two others", square(4, 123, 1230).x().rows(), 2);
        due.is("rows() of 9 with one", square(9, 876543210).x().rows(), 133496);
        due.unchanged(square(5, 12340), "rows() of 5 with one", RoadColours::rows, 44);
    }

    @Asks("-2 as of on().")
    static void promise29NoSquareOrAllRows(Due due) {
        due.refused(Bench.fresh(), "rows() without a square", RoadColours::rows);
        due.refused(square(2, 10, 1), "rows() with two rows of 2", RoadColours::rows);
        due.refused(square(3, 12, 120, 201), "rows() with three rows of 3", RoadColours::rows);
    }

    @Asks("The number at column c of row r of THE SQUARE")
    static void promise30FirstAndLast(Due due) {
        Bench b = square(9, 12345678, 876503214);
        due.is("at(0, 0)", b.x().at(0, 0), 0);
        due.is("at(0, 8)", b.x().at(0, 8), 8);
        due.is("at(1, 0)", b.x().at(1, 0), 8);
        due.is("at(1, 8)", b.x().at(1, 8), 4);
        due.unchanged(b, "at(1, 4)", x -> x.at(1, 4), 0);
    }

    @Asks("-1 when there is none such.")
    static void promise30NoSquareOrNoRows(Due due) {
        due.is("at(0, 0) without a square", Bench.fresh().x().at(0, 0), -1);
        due.is("at(-1, -1) without a square", Bench.fresh().x().at(-1, -1), -1);
        due.is("at(0, 0) without rows", square(9).x().at(0, 0), -1);
    }

    @Asks("-1 when there is none such.")
    static void promise30NoSuchRow(Due due) {
        Bench b = square(2, 10);
        due.is("at(1, 0) not held yet", b.x().at(1, 0), -1);
        b.x().on();
        due.is("at(1, 0)", b.x().at(1, 0), 0);
        due.is("at(2, 0)", b.x().at(2, 0), -1);
        due.is("at(-1, 0)", b.x().at(-1, 0), -1);
        due.is("at(least, 0)", b.x().at(LEAST, 0), -1);
        due.is("at(greatest, 0)", b.x().at(GREATEST, 0), -1);
    }

    @Asks("-1 when there is none such.")
    static void promise30NoSuchColumn(Due due) {
        Bench b = square(9);
        for (int row = 0; row < 9; row++) {
            b.x().on();
        }
        due.is("at(0, 9) of nine", b.x().at(0, 9), -1);
        due.is("at(8, 9) of nine", b.x().at(8, 9), -1);
        due.is("at(9, 0) of nine", b.x().at(9, 0), -1);
        due.is("at(1, -1) of nine", b.x().at(1, -1), -1);
        b.x().square(2);
        b.x().on();
        due.is("at(0, 2) where a greater one was", b.x().at(0, 2), -1);
        due.is("at(1, 0) where a greater one was", b.x().at(1, 0), -1);
        due.is("at(0, least)", b.x().at(0, LEAST), -1);
        due.is("at(0, greatest)", b.x().at(0, GREATEST), -1);
    }

    @Asks("Whom i meets in week w of m.")
    static void promise31EachMeetsEachOnce(Due due) {
        for (int m = 2; m <= 20; m += 2) {
            for (int i = 0; i < m; i++) {
                Bench b = Bench.fresh();
                int met = 0;
                for (int w = 0; w < m - 1; w++) {
                    int j = b.x().meets(m, w, i);
                    met |= 1 << j;
                    due.is(i + " of " + m + " in week " + w + " the other way round", b.x().meets(m, w, j), i);
                }
                due.is("all whom " + i + " of " + m + " meets", met, (1 << m) - 1 ^ 1 << i);
            }
        }
        due.unchanged(Bench.circle(3), "meets(4, 1, 0)", x -> x.meets(4, 1, 0), 2);
    }

    @Asks("-2 when m is not even, 2..20")
    static void promise31NoSuchM(Due due) {
        Bench b = Bench.fresh();
        for (int m = -21; m <= 41; m++) {
            if (m < 2 || m > 20 || Math.floorMod(m, 2) == 1) {
                due.is("meets(" + m + ", 0, 0)", b.x().meets(m, 0, 0), -2);
            }
        }
        due.is("meets(least, 0, 0)", b.x().meets(LEAST, 0, 0), -2);
        due.is("meets(greatest, 0, 0)", b.x().meets(GREATEST, 0, 0), -2);
        due.is("meets(2, 0, 0)", b.x().meets(2, 0, 0), 1);
        due.is("meets(20, 0, 0)", b.x().meets(20, 0, 0), 19);
    }

    @Asks("w not 0..m - 2")
    static void promise31NoSuchWeek(Due due) {
        Bench b = Bench.fresh();
        for (int m = 2; m <= 20; m += 2) {
            due.is("meets(" + m + ", -1, 0)", b.x().meets(m, -1, 0), -2);
            due.is("meets(" + m + ", m - 2, m - 1)", b.x().meets(m, m - 2, m - 1), m - 2);
            due.is("meets(" + m + ", m - 1, 0)", b.x().meets(m, m - 1, 0), -2);
            due.is("meets(" + m + ", m - 1, m - 1)", b.x().meets(m, m - 1, m - 1), -2);
            due.is("meets(" + m + ", m, 0)", b.x().meets(m, m, 0), -2);
            due.is("meets(" + m + ", least, 0)", b.x().meets(m, LEAST, 0), -2);
            due.is("meets(" + m + ", greatest, 0)", b.x().meets(m, GREATEST, 0), -2);
        }
    }

    @Asks("or i not 0..m - 1.")
    static void promise31NoSuchI(Due due) {
        Bench b = Bench.fresh();
        for (int m = 2; m <= 20; m += 2) {
            due.is("meets(" + m + ", 0, -1)", b.x().meets(m, 0, -1), -2);
            due.is("meets(" + m + ", 0, m - 1)", b.x().meets(m, 0, m - 1), 0);
            due.is("meets(" + m + ", 0, m)", b.x().meets(m, 0, m), -2);
            due.is("meets(" + m + ", 0, least)", b.x().meets(m, 0, LEAST), -2);
            due.is("meets(" + m + ", 0, greatest)", b.x().meets(m, 0, GREATEST), -2);
        }
    }

    @Asks("How many: 0 posts, 1 roads, 2 rows of THE SQUARE.")
    static void promise32FromNoneToAll(Due due) {
        for (int what = 0; what < 3; what++) {
            due.is("many(" + what + ") of none", Bench.fresh().x().many(what), 0);
        }
        Bench b = Bench.between(24);
        b.x().square(9);
        due.is("many(2) of a square without rows", b.x().many(2), 0);
        for (int row = 0; row < 9; row++) {
            b.x().on();
        }
        due.is("many(0) of 12", b.x().many(0), 12);
        due.is("many(1) of 24", b.x().many(1), 24);
        due.is("many(2) of 9", b.x().many(2), 9);
        b.x().drop();
        b.x().square(2);
        due.is("many(0) after a drop", b.x().many(0), 12);
        due.is("many(1) after a drop", b.x().many(1), 23);
        due.is("many(2) after another size", b.x().many(2), 0);
    }

    @Asks("-2 for another what.")
    static void promise32AnotherWhat(Due due) {
        Bench b = Bench.circle(3);
        due.refused(b, "many(3)", x -> x.many(3));
        due.refused(b, "many(-1)", x -> x.many(-1));
        due.refused(b, "many(least)", x -> x.many(LEAST));
        due.refused(b, "many(greatest)", x -> x.many(GREATEST));
    }
}
