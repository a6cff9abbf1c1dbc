/** What the project's tests share: objects made from a tape, and answers held against those that are due. */
final class Due {
    private final String test;
    private String sentence = "";
    private int sentences = 0;
    private int checked = 0;
    private int wrong = 0;

    Due(String test) {
        this.test = test;
    }

    /** From here on answers are due by this sentence, which must stand in the document word for word. */
    void by(String quoted) {
        sentence = quoted;
        sentences++;
        holds("the quote", Doc.says(quoted));
    }

    void is(String what, long got, long want) {
        checked++;
        if (got != want) {
            wrong++;
            System.out.println(test + ": " + what + " answered " + got + ", due is " + want + told());
        }
    }

    private String told() {
        return sentence.isEmpty() ? "" : ", by \"" + sentence + "\"";
    }

    void holds(String what, boolean good) {
        is(what, good ? 1 : 0, 1);
    }

    boolean isClean() {
        return wrong == 0;
    }

    void end() {
        String quoted = sentences == 0 ? "" : " by " + sentences + " sentences";
        System.out.println(test + ": " + checked + " answers" + quoted + ", " + wrong + " not as due");
        if (wrong != 0) {
            System.exit(1);
        }
    }

    static void feedAll(RivalSorry x, String tape) {
        for (int i = 0; i < tape.length(); i++) {
            x.feed(tape.charAt(i));
        }
    }

    static int read(RivalSorry x, String tape) {
        feedAll(x, tape);
        return x.coast();
    }

    static RivalSorry on(String tape) {
        RivalSorry x = new RivalSorry();
        if (read(x, tape) < 0) {
            throw new IllegalArgumentException("no coast: " + tape);
        }
        return x;
    }

    /** All that is told of the coast; 95 calls at most. */
    static String coastOf(RivalSorry x) {
        StringBuilder all = new StringBuilder();
        int people = x.count(0);
        int wrongs = x.count(1);
        for (int what = 2; what <= 6; what++) {
            all.append(x.count(what)).append(' ');
        }
        for (int i = 0; i < people * 8; i++) {
            all.append(i % 8 == 0 ? ", " : " ").append(x.person(i / 8, i % 8));
        }
        for (int i = 0; i < wrongs * 5; i++) {
            all.append(i % 5 == 0 ? "; " : " ").append(x.wrong(i / 5, i % 5));
        }
        return all.toString();
    }

    /** The coast, how many acts can be undone, and how many bytes the tape has. */
    static String wholeOf(RivalSorry x) {
        return x.count(7) + " " + x.count(8) + " " + coastOf(x);
    }

    void same(String what, String got, String want) {
        if (!got.equals(want)) {
            System.out.println("got " + got + "\ndue " + want);
        }
        holds(what, got.equals(want));
    }
}
