import java.util.function.ToLongFunction;

/** Tells every answer that is not the one that is due, and how many there were. */
final class Due {
    private final String name;
    private int asked = 0;
    private int wrong = 0;

    Due(String name) {
        this.name = name;
    }

    void is(String what, long got, long want) {
        same(what, Long.toString(got), Long.toString(want));
    }

    void holds(String what, boolean yes) {
        is(what, yes ? 1 : 0, 1);
    }

    void same(String what, String got, String want) {
        asked++;
        if (!got.equals(want)) {
            wrong++;
            if (wrong <= 50) {
                System.out.println(name + ": " + what + " answered " + got + ", due is " + want);
            }
        }
    }

    /** The numbers of all roads, and that there are no more roads. */
    void numbers(Bench b, String after, int... numbers) {
        is("how many roads after " + after, b.x().many(1), numbers.length);
        for (int r = 0; r < numbers.length; r++) {
            is("number of road " + r + " after " + after, b.x().of(r, 2), numbers[r]);
        }
    }

    /** The call answers this, and the object holds afterwards what it held before. */
    void unchanged(Bench b, String what, ToLongFunction<RoadColours> call, long want) {
        String before = b.state();
        is(what, call.applyAsLong(b.x()), want);
        same("what is held after " + what, b.state(), before);
    }

    void refused(Bench b, String what, ToLongFunction<RoadColours> call) {
        unchanged(b, what, call, -2);
    }

    boolean allRight() {
        return wrong == 0;
    }

    int howManyAsked() {
        return asked;
    }

    void end() {
        System.out.println(name + ": " + (asked - wrong) + " of " + asked + " answers are as due");
        if (wrong != 0 || asked == 0) {
            System.exit(1);
        }
    }
}
