/**
 * Every call with every mixture of arguments on, beside and far off their boundaries, in several states, held against the model.
 * Where the edge tests tell one answer for one sentence, this looks for the corner that nobody thought of.
 */
public final class GridTest {
    private static final Due DUE = new Due("GridTest");
    private static final long LEAST = Integer.MIN_VALUE, GREATEST = Integer.MAX_VALUE;
    private static final int STATES = 6;
    /** So many calls on one object, beside those that make its state: fewer than the 512 that are promised. */
    private static final int MOST_CALLS = 250;

    private static final long[] PERSON = {LEAST, -1, 0, 1, 2, 4, 5, 6, GREATEST};
    private static final long[] WRONG = {LEAST, -2, -1, 0, 1, 2, 4, 7, 8, GREATEST};
    private static final long[] TWO = {LEAST, -1, 0, 1, 2, GREATEST};
    private static final long[] FIGURE = {LEAST, -1, 0, 1, 4, 5, 9, 10, GREATEST};
    private static final long[] SHEET = {LEAST, -1, 0, 1, 2, 3, 4, GREATEST};
    private static final long[] LANE = {-1, 0, 1, 2, 3, 4};
    private static final long[] PLACE = {LEAST, -1, 0, 1, 2, 4, 5, 16, 17, 23, 24, 25, GREATEST - 1, GREATEST};
    private static final long[] MANY = {LEAST, -1, 0, 1, 2, 10, 11, 24, 25, 1 << 30, GREATEST};
    private static final long[] VALUE = {Long.MIN_VALUE, LEAST, -32769, -129, -1, 0, 9, 128, 255, 40000, GREATEST, Long.MAX_VALUE};

    private final int state;
    private RivalSorry x;
    private Model model;
    private int calls;

    private GridTest(int state) {
        this.state = state;
        renew();
    }

    public static void main(String[] args) {
        for (int state = 0; state < STATES; state++) {
            GridTest grid = new GridTest(state);
            grid.telling();
            grid.acts();
            grid.foretold();
            grid.sheets();
        }
        DUE.end();
    }

    // ---- states

    private void renew() {
        x = new RivalSorry();
        model = new Model();
        calls = 0;
        switch (state) {
            case 0:
                break;
            case 1:
                lay(0, 0, 24);
                lay(1, 3, 2);
                break;
            case 2:
                read("r5c5021,a3470,f8290,b1150,r288-;014,105,025,121,433;1");
                lay(0, 2, 24);
                lay(3, 2, 5);
                same("image", 0);
                same("carry", 2, 1);
                break;
            case 3:
                read("r6c9991,a9992,f9993,b9994,r9995,c9990;019,129,239,349,459,509,019,129;1");
                lay(2, 1, 23);
                same("pass");
                break;
            case 4:
                read("r2c900-,c9000;105,011;0");
                lay(1, 1, 16);
                for (int day = 0; day < 26; day++) {
                    same("pass");
                }
                break;
            default:
                read("r6c000-,c9010,a5020,r3030,b0040,c005-;051,055,059,013,029,038,044,052;0");
                lay(0, 3, 24);
                lay(1, 0, 0);
                same("carry", 0, 1);
                same("carry", 6, 2);
                same("image", 1);
                same("sheet", 3, 3, 10);
                same("log", 3, 3, 3, 1);
        }
    }

    private void read(String tape) {
        for (int i = 0; i < tape.length(); i++) {
            same("feed", tape.charAt(i));
        }
        same("coast");
    }

    private void lay(int sheet, int lane, int size) {
        same("sheet", sheet, lane, size);
        for (int i = 0; i < size; i++) {
            same("item", sheet, lane, i, i % 2 == 0 ? i * 7 % 11 : 2 + i % 3);
        }
    }

    private long same(String name, long... args) {
        long got = Calls.on(x, name, args);
        DUE.is("in state " + state + " " + Calls.told(name, args), got, Calls.on(model, name, args));
        return got;
    }

    private void sameCoast() {
        for (int what = 0; what <= 8; what++) {
            same("count", what);
        }
        for (int i = 0; i < x.count(0) * 8; i++) {
            same("person", i / 8, i % 8);
        }
        for (int i = 0; i < x.count(1) * 5; i++) {
            same("wrong", i / 5, i % 5);
        }
    }

    // ---- grids

    /** A call that changes nothing. */
    private void ask(String name, long[]... choices) {
        each(false, name, new long[choices.length], 0, choices);
    }

    /** A call that may change something: a new object for each one that does. */
    private void change(String name, long[]... choices) {
        each(true, name, new long[choices.length], 0, choices);
    }

    private void each(boolean changes, String name, long[] args, int at, long[]... choices) {
        if (at < choices.length) {
            for (long choice : choices[at]) {
                args[at] = choice;
                each(changes, name, args, at + 1, choices);
            }
            return;
        }
        long got = same(name, args);
        calls++;
        if (changes && got >= 0) {
            sameCoast();
        }
        if (calls >= MOST_CALLS || changes && got >= 0) {
            renew();
        }
    }

    private static long[] upTo(int last) {
        long[] all = new long[last + 5];
        for (int i = 0; i <= last; i++) {
            all[i] = i;
        }
        all[last + 1] = -1;
        all[last + 2] = last + 1;
        all[last + 3] = LEAST;
        all[last + 4] = GREATEST;
        return all;
    }

    private void telling() {
        change("feed", new long[] {LEAST, -1, 0, 255, 256, GREATEST});
        change("coast");
        ask("person", PERSON, upTo(7));
        ask("as", PERSON, upTo(5));
        ask("wrong", WRONG, upTo(4));
        ask("count", upTo(8));
    }

    private void acts() {
        change("carry", WRONG, upTo(5));
        change("lend", PERSON, upTo(5));
        change("sin", PERSON, PERSON, FIGURE);
        change("harden", PERSON, FIGURE);
        change("pass");
        change("undo");
        change("image", TWO);
        change("restore", TWO);
    }

    private void foretold() {
        ask("said", WRONG, upTo(5));
        ask("comes", WRONG, upTo(5));
        ask("least", WRONG, upTo(5));
        ask("match", WRONG);
        ask("chain", PERSON, TWO);
        ask("reach", PERSON, upTo(9));
        ask("plan", new long[] {LEAST, -1, 0, 1, 2, 3, 4, GREATEST}, new long[] {LEAST, -2, -1, 0, 1, 2, 3, 4, GREATEST});
        ask("gusts", WRONG, PERSON, upTo(10), TWO);
        ask("decades", new long[] {LEAST, -1, 0, 1, 59, 60, 61, GREATEST}, new long[] {LEAST, -1, 0, 1, 2, 999998, 999999, 1000000, GREATEST},
            TWO);
    }

    /** What comes to items is not told by a call; it changes both alike, and is seen by the calls behind. */
    private void sheets() {
        long[] rows = {-1, 0, 1, 2, 3, 4};
        change("sheet", SHEET, LANE, new long[] {LEAST, -1, 0, 1, 23, 24, 25, GREATEST});
        change("drop", SHEET);
        ask("item", SHEET, LANE, PLACE, VALUE);
        ask("copy", rows, PLACE, rows, PLACE, MANY);
        ask("log", PERSON, SHEET, LANE, PLACE);
        ask("skills", PERSON, rows, LANE, PLACE, MANY, new long[] {-1, 0, 1, 2});
        ask("kinds", PERSON, rows, LANE, PLACE, MANY, new long[] {-1, 0, 1, 2});
    }
}
