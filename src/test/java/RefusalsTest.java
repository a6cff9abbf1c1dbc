/** Each refusal of each call: the answer that is due, and that it changes nothing, be it of the coast, acts, tape, images or sheets. */
public final class RefusalsTest {
    private static final Due DUE = new Due("RefusalsTest");
    private static final int BAD = RivalSorry.BAD, NOT = RivalSorry.NOT, FULL = RivalSorry.FULL, NONE = RivalSorry.NONE;
    private static final int NULL = RivalSorry.NULL, CAST = RivalSorry.CAST, INDEX = RivalSorry.INDEX, SIZE = RivalSorry.SIZE;
    private static final String TAPE = "r6c0001,c9000,f0000,b0042,r0033,c900-;039,029,019,049,451,309,349,521;0";

    public static void main(String[] args) {
        withCoast();
        withoutCoast();
        fullTape();
        DUE.end();
    }

    /** A COAST of 8 wrongs on day 3, acts, sheets of two lanes, sheet 2 nothing, image 0 kept, a tape begun. */
    private static RivalSorry busy() {
        RivalSorry x = Due.on(TAPE);
        x.pass();
        x.image(0);
        x.carry(0, 1);
        x.carry(1, 1);
        x.lend(5, 0);
        x.harden(0, 7);
        lay(x, 0, 1, 1, 2, 3);
        lay(x, 1, 2, 4, 5, 10, 3, -1, 3);
        lay(x, 3, 1, 6, 7);
        x.feed('r');
        x.feed('2');
        return x;
    }

    private static void lay(RivalSorry x, int sheet, int lane, long... items) {
        x.sheet(sheet, lane, items.length);
        for (int i = 0; i < items.length; i++) {
            x.item(sheet, lane, i, items[i]);
        }
    }

    /** All that can be told of such an object, and that only by changing it. */
    private static String deepOf(RivalSorry x) {
        StringBuilder all = new StringBuilder(Due.wholeOf(x));
        all.append(" | ").append(x.drop(2)).append(itemsOf(x, 0, 1, 3)).append(itemsOf(x, 3, 1, 2)).append(itemsOf(x, 1, 2, 6));
        all.append(" | ").append(x.drop(0)).append(' ').append(x.drop(1)).append(' ').append(x.drop(3)).append(" |");
        for (int left = x.undo(); left >= 0; left = x.undo()) {
            all.append(' ').append(left).append(' ').append(x.count(3)).append(' ').append(x.count(2));
        }
        all.append(" | ").append(x.restore(1)).append(' ').append(x.restore(0)).append(' ').append(Due.coastOf(x));
        return all.append(" | ").append(x.coast()).toString();
    }

    /** Items 0 to 9 of a sheet, each told by the skill of a carrier (person 0) who would say as much; sheet 2 serves. */
    private static String itemsOf(RivalSorry x, int sheet, int lane, int size) {
        StringBuilder all = new StringBuilder(" ;");
        x.sheet(2, lane, 2);
        for (int i = 0; i < size; i++) {
            x.copy(sheet, i, 2, 1, 1);
            all.append(' ').append(x.skills(0, 2, lane, 0, 1, 0));
        }
        x.drop(2);
        return all.toString();
    }

    private static void refused(String unchanged, int due, String name, long... args) {
        RivalSorry x = busy();
        DUE.is(Calls.told(name, args), Calls.on(x, name, args), due);
        DUE.same("all behind " + Calls.told(name, args), deepOf(x), unchanged);
    }

    private static void withCoast() {
        DUE.by("What is refused changes nothing, but as told.");
        DUE.is("the day of the busy one", busy().count(3), 3);
        DUE.is("acts of the busy one", busy().count(7), 5);
        String same = deepOf(busy());
        telling(same);
        acts(same);
        foretold(same);
        sheets(same);
        pairs(same);
    }

    private static void telling(String same) {
        refused(same, BAD, "feed", -1);
        refused(same, BAD, "feed", 256);
        refused(same, BAD, "person", 6, 0);
        refused(same, BAD, "person", 0, 8);
        refused(same, BAD, "as", 0, 6);
        refused(same, CAST, "as", 0, 4);
        refused(same, BAD, "wrong", 8, 0);
        refused(same, BAD, "wrong", 0, 5);
        refused(same, BAD, "count", 9);
    }

    private static void acts(String same) {
        refused(same, BAD, "carry", 8, 1);
        refused(same, BAD, "carry", 2, 6);
        refused(same, NOT, "carry", 0, 1);
        refused(same, NOT, "carry", 2, 1);
        refused(same, BAD, "lend", 1, 1);
        refused(same, BAD, "lend", 1, 6);
        refused(same, NOT, "lend", 5, 0);
        refused(same, BAD, "sin", 0, 0, 1);
        refused(same, BAD, "sin", 0, 1, 10);
        refused(same, FULL, "sin", 0, 1, 9);
        refused(same, BAD, "harden", 0, 10);
        refused(same, NOT, "harden", 0, 7);
        refused(same, BAD, "image", 2);
        refused(same, BAD, "image", -1);
        refused(same, BAD, "restore", 2);
        refused(same, NOT, "restore", 1);
    }

    private static void foretold(String same) {
        refused(same, BAD, "said", 8, 0);
        refused(same, BAD, "comes", 0, 6);
        refused(same, NOT, "comes", 0, 1);
        refused(same, BAD, "least", 8, 0);
        refused(same, NOT, "least", 0, 1);
        refused(same, BAD, "match", 8);
        refused(same, BAD, "match", -2);
        refused(same, BAD, "chain", 6, 0);
        refused(same, BAD, "chain", 0, 2);
        refused(same, BAD, "reach", 0, 10);
        refused(same, BAD, "plan", 4, 0);
        refused(same, BAD, "plan", 3, -2);
        refused(same, NONE, "plan", 3, 3);
        refused(same, BAD, "gusts", 0, 1, 11, 0);
        refused(same, NOT, "gusts", 0, 1, 10, 0);
        refused(same, BAD, "decades", 61, 1, 0);
        refused(same, BAD, "decades", 60, 0, 0);
        refused(same, BAD, "decades", 60, 1000000, 0);
    }

    private static void sheets(String same) {
        refused(same, BAD, "sheet", 0, 1, 25);
        refused(same, BAD, "sheet", 0, 4, 3);
        refused(same, SIZE, "sheet", 0, 1, -1);
        refused(same, SIZE, "sheet", 2, 1, -1);
        refused(same, BAD, "drop", 4);
        refused(same, NULL, "drop", 2);
        refused(same, BAD, "item", 0, 4, 0, 9);
        refused(same, NULL, "item", 2, 1, 0, 9);
        refused(same, CAST, "item", 0, 2, 0, 9);
        refused(same, INDEX, "item", 0, 1, 3, 9);
        refused(same, INDEX, "item", 0, 1, -1, 9);
        refused(same, BAD, "copy", 0, 0, 4, 0, 1);
        refused(same, NULL, "copy", 0, 0, 2, 0, 1);
        refused(same, NULL, "copy", 2, 0, 0, 0, 1);
        refused(same, CAST, "copy", 1, 0, 0, 0, 1);
        refused(same, INDEX, "copy", 0, 0, 3, 0, 3);
        refused(same, INDEX, "copy", 3, 0, 0, 2, 2);
        refused(same, INDEX, "copy", 0, 1, 0, 0, -1);
        refused(same, BAD, "log", 6, 0, 1, 0);
        refused(same, NULL, "log", 0, 2, 1, 0);
        refused(same, CAST, "log", 0, 0, 2, 0);
        refused(same, INDEX, "log", 0, 0, 1, 0);
    }

    private static void pairs(String same) {
        String[] names = {"skills", "kinds"};
        for (String name : names) {
            refused(same, BAD, name, 6, 0, 1, 0, 1, 0);
            refused(same, BAD, name, 0, 0, 1, 0, 0, 0);
            refused(same, BAD, name, 0, 0, 1, 0, 11, 0);
            refused(same, NULL, name, 0, 2, 1, 0, 1, 0);
            refused(same, CAST, name, 0, 0, 2, 0, 1, 0);
            refused(same, INDEX, name, 0, 0, 1, 2, 1, 0);
            refused(same, BAD, name, 0, 0, 1, 0, 1, 2);
            refused(same, NOT, name, 0, 1, 2, 2, 1, 0);
            refused(same, NOT, name, 0, 1, 2, 4, 1, 1);
            refused(same, NOT, name, 0, 1, 2, 0, 2, 0);
        }
    }

    /** Refused for want of a COAST: none stands then, and the sheets and the tape stay. */
    private static void withoutCoast() {
        DUE.by("What is refused changes nothing, but as told.");
        String[] names = {"pass", "undo", "image", "restore", "match", "plan", "decades", "log", "skills", "kinds", "carry", "lend", "sin",
            "harden"};
        long[][] args = {{}, {}, {0}, {0}, {-1}, {0, -1}, {0, 1, 0}, {0, 0, 0, 0}, {0, 0, 0, 0, 1, 0}, {0, 0, 0, 0, 1, 0}, {0, 0}, {0, 1},
            {0, 1, 1}, {0, 0}};
        int[] due = {NOT, NONE, NOT, NOT, NOT, NOT, NOT, BAD, BAD, BAD, BAD, BAD, BAD, BAD};
        for (int i = 0; i < names.length; i++) {
            RivalSorry x = new RivalSorry();
            x.sheet(0, 0, 24);
            x.feed('r');
            DUE.is(Calls.told(names[i], args[i]), Calls.on(x, names[i], args[i]), due[i]);
            DUE.same("all behind " + names[i], Due.wholeOf(x), "0 1 0 0 0 0 0 ");
            DUE.is("the sheet", x.drop(0), 24);
            DUE.is("no image", x.restore(0), NOT);
            DUE.is("the tape goes on", Due.read(x, "2c000-,c000-;011;0"), 1);
        }
    }

    private static void fullTape() {
        DUE.by("What is refused changes nothing, but as told.");
        RivalSorry x = busy();
        for (int i = 3; i <= 130; i++) {
            x.feed(i == 3 ? 'c' : '0');
        }
        DUE.is("feed", x.feed('-'), FULL);
        DUE.is("bytes", x.count(8), 130);
        // r2c0000..: the 0 at place 6 is one's own figure.
        DUE.is("as it was fed", x.coast(), -106);
        DUE.is("the coast stays", x.count(1), 8);
    }
}
