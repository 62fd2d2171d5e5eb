/** Tells every answer that is not the one that is due, and how many there were. */
final class Due {
    private final String name;
    private int asked = 0;
    private int wrong = 0;

    Due(String name) {
        this.name = name;
    }

    void is(String what, long got, long want) {
        asked++;
        if (got != want) {
            wrong++;
            if (wrong <= 50) {
                System.out.println(name + ": " + what + " answered " + got + ", due is " + want);
            }
        }
    }

    void holds(String what, boolean yes) {
        is(what, yes ? 1 : 0, 1);
    }

    boolean allRight() {
        return wrong == 0;
    }

    void end() {
        System.out.println(name + ": " + (asked - wrong) + " of " + asked + " answers are as due");
        if (wrong != 0 || asked == 0) {
            System.exit(1);
        }
    }
}
