/** What the project's tests share: objects made from a tape, and answers held against those that are due. */
final class Due {
    private final String test;
    private int checked = 0;
    private int wrong = 0;

    Due(String test) {
        this.test = test;
    }

    void is(String what, long got, long want) {
        checked++;
        if (got != want) {
            wrong++;
            System.out.println(test + ": " + what + " answered " + got + ", due is " + want);
        }
    }

    void holds(String what, boolean good) {
        is(what, good ? 1 : 0, 1);
    }

    boolean isClean() {
        return wrong == 0;
    }

    void end() {
        System.out.println(test + ": " + checked + " answers, " + wrong + " not as due");
        if (wrong != 0) {
            System.exit(1);
        }
    }

    static void feedAll(RivalSorry x, String tape) {
        for (int i = 0; i < tape.length(); i++) {
            x.feed(tape.charAt(i));
        }
    }

    static int read(RivalSorry x, String tape) {
        feedAll(x, tape);
        return x.coast();
    }

    static RivalSorry on(String tape) {
        RivalSorry x = new RivalSorry();
        if (read(x, tape) < 0) {
            throw new IllegalArgumentException("no coast: " + tape);
        }
        return x;
    }
}
