/** The boundaries that the document names for sheets, skills and kinds (promises 24 to 30), sentence by sentence. */
public final class SheetsEdgesTest {
    private static final Due DUE = new Due("SheetsEdgesTest");
    private static final int BAD = RivalSorry.BAD, NOT = RivalSorry.NOT, NONE = RivalSorry.NONE;
    private static final int NULL = RivalSorry.NULL, CAST = RivalSorry.CAST, INDEX = RivalSorry.INDEX, SIZE = RivalSorry.SIZE;
    private static final int LEAST = Integer.MIN_VALUE, GREATEST = Integer.MAX_VALUE;
    /** One of each kind, of skill 4; each at mile 0. */
    private static final String FIVE = "r5c4001,a4000,f4000,b4000,r4000;011;0";

    public static void main(String[] args) {
        nothingAtFirst();
        sheet();
        sheetIsNew();
        drop();
        itemLowestBits();
        itemIndex();
        itemRefuses();
        copyAhead();
        copyFits();
        copyRefuses();
        log();
        logFits();
        logRefuses();
        skillsZeroToNine();
        skillsBehindKinds();
        skillsCarried();
        skillsPairs();
        skillsTry();
        kinds();
        kindsByMiles();
        kindsAsTheyAre();
        kindsTry();
        pairsFit();
        pairsMiles();
        pairsRefuse();
        DUE.end();
    }

    // ---- what the tests share

    private static void lay(RivalSorry x, int sheet, int lane, long... items) {
        x.sheet(sheet, lane, items.length);
        for (int i = 0; i < items.length; i++) {
            x.item(sheet, lane, i, items[i]);
        }
    }

    /** There is no call that only looks at an item: a copy of it, taken as SAID by a carrier (person 0), tells it, if it is 0 to 9. */
    private static void holds(RivalSorry x, int sheet, int lane, int... items) {
        x.sheet(3, lane, 2);
        for (int i = 0; i < items.length; i++) {
            x.copy(sheet, i, 3, 1, 1);
            DUE.is("item " + i + " of sheet " + sheet, x.skills(0, 3, lane, 0, 1, 0), 1 << items[i]);
        }
    }

    private static int ask(boolean ofKinds, RivalSorry x, int... a) {
        return ofKinds ? x.kinds(a[0], a[1], a[2], a[3], a[4], a[5]) : x.skills(a[0], a[1], a[2], a[3], a[4], a[5]);
    }

    private static String told(int... a) {
        return java.util.Arrays.toString(a);
    }

    // ---- sheets

    private static void nothingAtFirst() {
        DUE.by("4 SHEETS 0 .. 3: nothing (at first), or a row of a LANE: 0 bytes, 1 shorts, 2 ints, 3 longs, of 0 to 24 items.");
        RivalSorry x = Due.on(FIVE);
        for (int s = 0; s < 4; s++) {
            DUE.is("drop", x.drop(s), NULL);
            DUE.is("item", x.item(s, s, 0, 1), NULL);
            DUE.is("copy", x.copy(s, 0, s, 0, 0), NULL);
            DUE.is("log", x.log(0, s, s, 0), NULL);
            DUE.is("skills", x.skills(0, s, s, 0, 1, 0), NULL);
            DUE.is("kinds", x.kinds(0, s, s, 0, 1, 0), NULL);
        }
        for (int s = 0; s < 4; s++) {
            DUE.is("a row of the lane", x.sheet(s, 3 - s, 24), 24);
            for (int lane = 0; lane < 4; lane++) {
                DUE.is("taken as lane " + lane, x.item(s, lane, 23, 7), lane == 3 - s ? 7 : CAST);
            }
        }
    }

    private static void sheet() {
        DUE.by("A SHEET holds a new row of a LANE, of n items 0: n. BAD: also n above 24; SIZE: n below 0.");
        RivalSorry x = new RivalSorry();
        DUE.is("n 0", x.sheet(0, 0, 0), 0);
        DUE.is("n 1", x.sheet(1, 1, 1), 1);
        DUE.is("n 23", x.sheet(2, 2, 23), 23);
        DUE.is("n 24", x.sheet(3, 3, 24), 24);
        int[][] bad = {{0, 0, 25}, {0, 0, GREATEST}, {-1, 0, 1}, {4, 0, 1}, {0, -1, 1}, {0, 4, 1}, {-1, 0, -1}, {4, 0, -1}, {0, -1, -1},
            {0, 4, -1}, {LEAST, 0, 0}, {GREATEST, 0, 0}, {0, LEAST, 0}, {0, GREATEST, 0}, {4, 4, 25}, {0, 4, 25}};
        for (int[] a : bad) {
            DUE.is("sheet" + told(a), x.sheet(a[0], a[1], a[2]), BAD);
        }
        DUE.is("n -1", x.sheet(3, 3, -1), SIZE);
        DUE.is("n least", x.sheet(3, 3, LEAST), SIZE);
        int[] had = {0, 1, 23, 24};
        for (int s = 0; s < 4; s++) {
            DUE.is("what is refused changes nothing", x.drop(s), had[s]);
        }
    }

    private static void sheetIsNew() {
        DUE.by("A SHEET holds a new row of a LANE, of n items 0");
        RivalSorry x = Due.on(FIVE);
        lay(x, 0, 1, 5, 6, 7, 8);
        DUE.is("as long", x.sheet(0, 1, 4), 4);
        holds(x, 0, 1, 0, 0, 0, 0);
        lay(x, 0, 1, 5, 6, 7, 8);
        DUE.is("of another lane", x.sheet(0, 2, 3), 3);
        holds(x, 0, 2, 0, 0, 0);
        lay(x, 0, 1, 5, 6, 7, 8);
        x.sheet(0, 1, 1);
        x.sheet(0, 1, 4);
        holds(x, 0, 1, 0, 0, 0, 0);
        lay(x, 0, 1, 5, 6, 7, 8);
        x.drop(0);
        x.sheet(0, 1, 4);
        holds(x, 0, 1, 0, 0, 0, 0);
    }

    private static void drop() {
        DUE.by("A SHEET holds nothing: how many items it had. BAD; NULL.");
        RivalSorry x = new RivalSorry();
        int[] sizes = {0, 1, 23, 24};
        for (int s = 0; s < 4; s++) {
            x.sheet(s, s, sizes[s]);
        }
        int[] bad = {-1, 4, LEAST, GREATEST};
        for (int s : bad) {
            DUE.is("drop(" + s + ")", x.drop(s), BAD);
        }
        for (int s = 0; s < 4; s++) {
            DUE.is("drop of " + sizes[s], x.drop(s), sizes[s]);
            DUE.is("drop again", x.drop(s), NULL);
            DUE.is("it holds nothing", x.item(s, s, 0, 1), NULL);
        }
    }

    private static void itemLowestBits() {
        DUE.by("Item i of a SHEET, taken as a row of a LANE, becomes v, its lowest bits: what it is then.");
        RivalSorry x = new RivalSorry();
        int[] bits = {8, 16, 32};
        for (int lane = 0; lane < 3; lane++) {
            x.sheet(0, lane, 1);
            long half = 1L << bits[lane] - 1;
            long[][] due = {{half - 1, half - 1}, {half, -half}, {-half, -half}, {-half - 1, half - 1}, {2 * half - 1, -1}, {2 * half, 0},
                {2 * half + 1, 1}, {-1, -1}, {-2 * half, 0}, {Long.MAX_VALUE, -1}, {Long.MIN_VALUE, 0}, {0, 0}};
            for (long[] one : due) {
                DUE.is("item of lane " + lane + " becomes " + one[0], x.item(0, lane, 0, one[0]), one[1]);
            }
        }
        x.sheet(0, 3, 1);
        long[] whole = {Long.MAX_VALUE, Long.MIN_VALUE, 0, -1, 1L << 32, 1L << 63};
        for (long v : whole) {
            DUE.is("item of longs becomes " + v, x.item(0, 3, 0, v), v);
        }
    }

    private static void itemIndex() {
        DUE.by("becomes v, its lowest bits: what it is then. BAD; NULL; CAST; INDEX.");
        RivalSorry x = new RivalSorry();
        int[] sizes = {0, 1, 23, 24};
        for (int s = 0; s < 4; s++) {
            x.sheet(s, s, sizes[s]);
            for (int i = -1; i <= 25; i++) {
                DUE.is("item " + i + " of " + sizes[s], x.item(s, s, i, 9), i >= 0 && i < sizes[s] ? 9 : INDEX);
            }
            DUE.is("far", x.item(s, s, LEAST, 9), INDEX);
            DUE.is("far", x.item(s, s, GREATEST, 9), INDEX);
        }
        RivalSorry y = Due.on(FIVE);
        lay(y, 0, 0, 1, 2, 3);
        y.item(0, 0, 1, 7);
        holds(y, 0, 0, 1, 7, 3);
        y.item(0, 0, 3, 8);
        y.item(0, 1, 0, 8);
        y.item(1, 0, 0, 8);
        holds(y, 0, 0, 1, 7, 3);
    }

    private static void itemRefuses() {
        DUE.by("Answers below 0, of several the first that a call names");
        RivalSorry x = new RivalSorry();
        x.sheet(0, 2, 3);
        int[][] bad = {{-1, 2, 0}, {4, 2, 0}, {0, -1, 0}, {0, 4, 0}, {1, 4, 9}, {4, 4, 9}, {LEAST, 2, 0}, {GREATEST, 2, 0}, {0, LEAST, 0},
            {0, GREATEST, 0}};
        for (int[] a : bad) {
            DUE.is("item" + told(a), x.item(a[0], a[1], a[2], 1), BAD);
        }
        DUE.is("nothing, and far", x.item(1, 2, 9, 1), NULL);
        DUE.is("another lane, and far", x.item(0, 1, 9, 1), CAST);
        DUE.is("far", x.item(0, 2, 9, 1), INDEX);
    }

    private static void copyAhead() {
        DUE.by("n items of a SHEET from i on come to another one (or the same) from j on, as if all were taken ahead: n.");
        int[][][] due = {{{0, 1, 4}, {1, 1, 2, 3, 4}}, {{1, 0, 4}, {2, 3, 4, 5, 5}}, {{0, 2, 3}, {1, 2, 1, 2, 3}}, {{2, 0, 3}, {3, 4, 5, 4, 5}},
            {{0, 0, 5}, {1, 2, 3, 4, 5}}, {{4, 0, 1}, {5, 2, 3, 4, 5}}, {{0, 4, 1}, {1, 2, 3, 4, 1}}, {{1, 3, 0}, {1, 2, 3, 4, 5}}};
        for (int lane = 0; lane < 4; lane++) {
            for (int[][] one : due) {
                RivalSorry x = Due.on(FIVE);
                lay(x, 1, lane, 1, 2, 3, 4, 5);
                DUE.is("copy" + told(one[0]), x.copy(1, one[0][0], 1, one[0][1], one[0][2]), one[0][2]);
                holds(x, 1, lane, one[1]);
            }
            RivalSorry two = Due.on(FIVE);
            lay(two, 0, lane, 1, 2, 3, 4, 5);
            lay(two, 2, lane, 6, 7, 8);
            DUE.is("to another one", two.copy(0, 3, 2, 1, 2), 2);
            holds(two, 0, lane, 1, 2, 3, 4, 5);
            holds(two, 2, lane, 6, 4, 5);
        }
    }

    private static void copyFits() {
        DUE.by("CAST: of unlike LANES; INDEX (n below 0, too).");
        RivalSorry x = new RivalSorry();
        x.sheet(0, 2, 24);
        x.sheet(1, 2, 3);
        x.sheet(2, 2, 0);
        int[][] fits = {{0, 0, 0, 0, 24}, {0, 24, 0, 24, 0}, {0, 21, 1, 0, 3}, {1, 0, 0, 21, 3}, {1, 3, 1, 0, 0}, {2, 0, 2, 0, 0}, {2, 0, 0, 24, 0},
            {0, 23, 1, 2, 1}};
        for (int[] a : fits) {
            DUE.is("copy" + told(a), x.copy(a[0], a[1], a[2], a[3], a[4]), a[4]);
        }
        int[][] beyond = {{0, 0, 0, 0, 25}, {0, 25, 0, 0, 0}, {0, 0, 0, 25, 0}, {0, 22, 1, 0, 3}, {0, 0, 1, 1, 3}, {1, 1, 0, 0, 3}, {1, 0, 0, 22, 3},
            {2, 0, 2, 0, 1}, {2, 1, 2, 0, 0}, {0, -1, 1, 0, 1}, {0, 0, 1, -1, 1}, {0, -1, 1, 0, 0}, {0, 0, 1, -1, 0}, {0, 0, 1, 0, -1},
            {0, 5, 1, 3, -1}, {0, 0, 0, 0, LEAST}, {0, GREATEST, 0, 0, 1}, {0, 1, 0, 0, GREATEST}, {0, GREATEST, 0, GREATEST, GREATEST},
            {0, LEAST, 0, 0, 0}, {0, 0, 0, LEAST, 0}};
        for (int[] a : beyond) {
            DUE.is("copy" + told(a), x.copy(a[0], a[1], a[2], a[3], a[4]), INDEX);
        }
        RivalSorry y = Due.on(FIVE);
        lay(y, 0, 1, 1, 2, 3);
        lay(y, 1, 1, 4, 5);
        DUE.is("one too many", y.copy(0, 0, 1, 0, 3), INDEX);
        holds(y, 1, 1, 4, 5);
    }

    private static void copyRefuses() {
        DUE.by("BAD; NULL (either); CAST: of unlike LANES; INDEX");
        RivalSorry x = new RivalSorry();
        x.sheet(0, 1, 3);
        x.sheet(1, 2, 3);
        int[][] bad = {{-1, 0, 0, 0, 0}, {4, 0, 0, 0, 0}, {0, 0, -1, 0, 0}, {0, 0, 4, 0, 0}, {2, 0, 4, 0, 0}, {4, 0, 2, 0, 0}, {4, 9, 4, 9, 9},
            {LEAST, 0, 0, 0, 0}, {0, 0, GREATEST, 0, 0}};
        for (int[] a : bad) {
            DUE.is("copy" + told(a), x.copy(a[0], a[1], a[2], a[3], a[4]), BAD);
        }
        int[][] nothing = {{2, 0, 0, 0, 0}, {0, 0, 2, 0, 0}, {2, 0, 3, 0, 0}, {2, 0, 2, 0, 0}, {2, 9, 0, 9, 9}, {1, -1, 3, -1, -1}};
        for (int[] a : nothing) {
            DUE.is("copy" + told(a), x.copy(a[0], a[1], a[2], a[3], a[4]), NULL);
        }
        DUE.is("unlike lanes", x.copy(0, 0, 1, 0, 0), CAST);
        DUE.is("unlike lanes, and far", x.copy(1, 9, 0, 9, 9), CAST);
        DUE.is("unlike lanes, n below 0", x.copy(1, 0, 0, 0, -1), CAST);
        DUE.is("like lanes, and far", x.copy(1, 9, 1, 9, 9), INDEX);
    }

    private static void log() {
        DUE.by("What would be SAID of each WRONG by a PERSON now, an item each, comes to a SHEET, taken as a row of a LANE, from i on: how many.");
        for (int lane = 0; lane < 4; lane++) {
            RivalSorry x = Due.on("r4c900-,r1020,c002-,c009-;029,019,039;0");
            DUE.is("fails", x.carry(2, 1), 0);
            lay(x, 0, lane, 8, 8, 8, 8, 8);
            DUE.is("three wrongs", x.log(1, 0, lane, 1), 3);
            holds(x, 0, lane, 8, 6, 6, 3, 8);
            DUE.is("by another one", x.log(0, 0, lane, 2), 3);
            holds(x, 0, lane, 8, 6, 9, 9, 9);
        }
        RivalSorry forgiven = Due.on("r3c000-,c9010,c002-;029,025;0");
        DUE.is("forgiven", forgiven.carry(0, 1), 1);
        forgiven.sheet(0, 0, 2);
        DUE.is("of one that is forgiven, too", forgiven.log(1, 0, 0, 0), 2);
        holds(forgiven, 0, 0, 9, 9);
    }

    private static void logFits() {
        DUE.by("from i on: how many. BAD; NULL; CAST; INDEX.");
        RivalSorry x = Due.on("r2c700-,c500-;011,011,011,011,011,011,011,011;0");
        int[] sizes = {24, 8, 7, 0};
        int[] last = {16, 0, -1, -1};
        for (int s = 0; s < 4; s++) {
            x.sheet(s, s, sizes[s]);
            for (int i = -1; i <= 25; i++) {
                DUE.is("eight from " + i + " on of " + sizes[s], x.log(0, s, s, i), i >= 0 && i <= last[s] ? 8 : INDEX);
            }
            DUE.is("far", x.log(0, s, s, LEAST), INDEX);
            DUE.is("far", x.log(0, s, s, GREATEST), INDEX);
        }
        RivalSorry y = Due.on("r2c700-,c500-;011,011;0");
        lay(y, 0, 0, 1, 2, 3);
        DUE.is("one too many", y.log(0, 0, 0, 2), INDEX);
        holds(y, 0, 0, 1, 2, 3);
        DUE.is("two fit", y.log(0, 0, 0, 1), 2);
        holds(y, 0, 0, 1, 7, 7);
    }

    private static void logRefuses() {
        DUE.by("Answers below 0, of several the first that a call names");
        RivalSorry x = Due.on(FIVE);
        x.sheet(0, 2, 3);
        int[][] bad = {{-1, 0, 2, 0}, {5, 0, 2, 0}, {0, -1, 2, 0}, {0, 4, 2, 0}, {0, 0, -1, 0}, {0, 0, 4, 0}, {5, 1, 2, 0}, {5, 0, 1, 0},
            {5, 0, 2, 9}, {0, 1, 4, 9}, {LEAST, 0, 2, 0}, {GREATEST, 0, 2, 0}, {0, LEAST, 2, 0}, {0, 0, GREATEST, 0}};
        for (int[] a : bad) {
            DUE.is("log" + told(a), x.log(a[0], a[1], a[2], a[3]), BAD);
        }
        DUE.is("nothing, and far", x.log(0, 1, 2, 9), NULL);
        DUE.is("another lane, and far", x.log(0, 0, 1, 9), CAST);
        DUE.is("far", x.log(0, 0, 2, 9), INDEX);
        DUE.is("the last person", x.log(4, 0, 2, 2), 1);
        RivalSorry none = new RivalSorry();
        none.sheet(0, 0, 24);
        DUE.is("no coast", none.log(0, 0, 0, 0), BAD);
    }

    // ---- skills

    private static void skillsBy(RivalSorry x, int person, int miles, int said, int due) {
        lay(x, 0, 1, miles, said);
        DUE.is("skills of " + person + " by " + miles + " and " + said, x.skills(person, 0, 1, 0, 1, 0), due);
        DUE.is("try of " + person + " by " + miles + " and " + said, x.skills(person, 0, 1, 0, 1, 1), due == 0 ? NONE : 0);
    }

    private static void skillsZeroToNine() {
        DUE.by("SKILLS by n pairs (1 to 10; MILES 0 to 9, what was SAID): those (0 to 9) that one may have, CARRIED as it is");
        for (int said = -2; said <= 17; said++) {
            RivalSorry x = Due.on(FIVE);
            skillsBy(x, 0, 9, said, said >= 0 && said <= 9 ? 1 << said : 0);
            skillsBy(x, 1, 9, said, said >= 2 && said <= 11 ? 1 << said - 2 : 0);
            skillsBy(x, 2, 9, said, said >= 0 && said <= 4 ? 3 << 2 * said : 0);
            skillsBy(x, 3, 9, said, said == 2 ? 1023 : 0);
            skillsBy(x, 4, 0, said, said >= 2 && said <= 11 ? 1 << said - 2 : 0);
            skillsBy(x, 4, 1, said, said >= 2 && said <= 11 ? 1 << said - 2 : 0);
            skillsBy(x, 4, 2, said, said >= 3 && said <= 12 ? 1 << said - 3 : 0);
            skillsBy(x, 4, 9, said, said >= 6 && said <= 15 ? 1 << said - 6 : 0);
        }
        RivalSorry x = Due.on(FIVE);
        lay(x, 0, 3, 0, 4 + (1L << 32), 0, Long.MIN_VALUE + 4, 0, 4);
        DUE.is("said is all of a long", x.skills(0, 0, 3, 0, 1, 0), 0);
        DUE.is("said is all of a long", x.skills(0, 0, 3, 2, 1, 0), 0);
        DUE.is("said is 4", x.skills(0, 0, 3, 4, 1, 0), 1 << 4);
    }

    private static void skillsBehindKinds() {
        DUE.by("those (0 to 9) that one may have");
        RivalSorry x = Due.on(FIVE);
        lay(x, 0, 0, 0, 0);
        DUE.is("kinds of skill 4", x.kinds(0, 0, 0, 0, 1, 0), 0);
        DUE.is("skill 0", x.skills(0, 0, 0, 0, 1, 0), 1);
        lay(x, 0, 0, 0, 9);
        DUE.is("skill 9", x.skills(0, 0, 0, 0, 1, 0), 1 << 9);
        lay(x, 0, 0, 0, 4);
        DUE.is("kinds behind skills", x.kinds(0, 0, 0, 0, 1, 0), 1 << 1);
    }

    private static void skillsCarried() {
        DUE.by("that one may have, CARRIED as it is");
        RivalSorry x = Due.on("r3c400-,b0000,c090-;029;0");
        skillsBy(x, 1, 0, 2, 1023);
        skillsBy(x, 1, 0, 3, 0);
        x.carry(0, 1);
        skillsBy(x, 1, 0, 2, 0);
        skillsBy(x, 1, 0, 3, 1023);
        skillsBy(x, 0, 0, 4, 1 << 4);
    }

    private static void skillsPairs() {
        DUE.by("SKILLS by n pairs (1 to 10");
        RivalSorry x = Due.on(FIVE);
        long[] items = new long[24];
        for (int pair = 0; pair < 12; pair++) {
            items[2 * pair] = pair % 10;
            items[2 * pair + 1] = 7;
        }
        lay(x, 0, 0, items);
        for (int n = -1; n <= 12; n++) {
            DUE.is(n + " pairs", x.skills(0, 0, 0, 0, n, 0), n >= 1 && n <= 10 ? 1 << 7 : BAD);
            DUE.is(n + " pairs, try", x.skills(0, 0, 0, 0, n, 1), n >= 1 && n <= 10 ? 0 : BAD);
        }
        for (int pair = 0; pair < 10; pair++) {
            x.item(0, 0, 2 * pair + 1, 6);
            DUE.is("pair " + pair + " tells, too", x.skills(0, 0, 0, 0, 10, 0), 0);
            DUE.is("none: there is no skill", x.skills(0, 0, 0, 0, 10, 1), NONE);
            DUE.is("pairs ahead of it alone", x.skills(0, 0, 0, 0, Math.max(1, pair), 0), pair == 0 ? 1 << 6 : 1 << 7);
            x.item(0, 0, 2 * pair + 1, 7);
        }
        x.item(0, 0, 21, 1);
        DUE.is("what stands behind them tells nothing", x.skills(0, 0, 0, 0, 10, 0), 1 << 7);
        lay(x, 0, 0, 0, 6, 4, 8, 9, 10, 2, 7, 7, 9);
        DUE.is("a rider by unlike miles", x.skills(4, 0, 0, 0, 5, 0), 1 << 4);
        DUE.is("a rider by unlike miles, by kinds", x.kinds(4, 0, 0, 0, 5, 0), 1 << 5);
    }

    private static void skillsTry() {
        DUE.by("TRY: the MILES (0 to 9) by which the greatest part of these by which as much is SAID is least, of like ones the least; "
            + "none: there is no SKILL.");
        RivalSorry x = Due.on(FIVE);
        lay(x, 0, 2, 5, 3, 5, 2, 5, 9);
        DUE.is("a flat one: two", x.skills(2, 0, 2, 0, 1, 0), 3 << 6);
        DUE.is("no miles part them", x.skills(2, 0, 2, 0, 1, 1), 0);
        DUE.is("a brother: all", x.skills(3, 0, 2, 2, 1, 0), 1023);
        DUE.is("no miles part them", x.skills(3, 0, 2, 2, 1, 1), 0);
        DUE.is("a carrier: one", x.skills(0, 0, 2, 4, 1, 1), 0);
        DUE.is("a flat one: none", x.skills(2, 0, 2, 4, 1, 1), NONE);
        DUE.is("a rider: one", x.skills(4, 0, 2, 4, 1, 0), 1 << 5);
        DUE.is("a rider: try", x.skills(4, 0, 2, 4, 1, 1), 0);
    }

    // ---- kinds

    private static void kindsBy(RivalSorry x, int person, int miles, int said, int due, int dueTry) {
        lay(x, 0, 2, miles, said);
        DUE.is("kinds of " + person + " by " + miles + " and " + said, x.kinds(person, 0, 2, 0, 1, 0), due);
        DUE.is("try of " + person + " by " + miles + " and " + said, x.kinds(person, 0, 2, 0, 1, 1), dueTry);
    }

    private static void kinds() {
        DUE.by("KINDS of a PERSON by n pairs, likewise, as a set (bits 1 .. 5; what 0), TRY (1; NONE).");
        RivalSorry x = Due.on("r5c400-,a000-,f200-,b900-,r800-;011;0");
        kindsBy(x, 0, 0, 4, 1 << 1, 0);
        kindsBy(x, 0, 0, 6, 1 << 2 | 1 << 5, 2);
        kindsBy(x, 0, 0, 2, 1 << 3 | 1 << 4, 0);
        kindsBy(x, 0, 0, 3, 0, NONE);
        kindsBy(x, 0, 0, -4, 0, NONE);
        kindsBy(x, 1, 0, 0, 1 << 1 | 1 << 3, 0);
        kindsBy(x, 1, 0, 2, 1 << 2 | 1 << 4 | 1 << 5, 2);
        kindsBy(x, 1, 0, 1, 0, NONE);
        kindsBy(x, 2, 0, 2, 1 << 1 | 1 << 4, 0);
        kindsBy(x, 2, 0, 1, 1 << 3, 0);
        kindsBy(x, 3, 0, 11, 1 << 2 | 1 << 5, 2);
        kindsBy(x, 3, 0, 12, 0, NONE);
        kindsBy(x, 4, 0, 4, 1 << 3, 0);
    }

    private static void kindsByMiles() {
        DUE.by("KINDS by n pairs, likewise");
        int[] half = {0, 0, 1, 1, 2, 2, 3, 3, 4, 4};
        RivalSorry x = Due.on("r2c500-,c500-;011;0");
        for (int miles = 0; miles <= 9; miles++) {
            kindsBy(x, 0, miles, 7, half[miles] == 0 ? 1 << 2 | 1 << 5 : 1 << 2, half[miles] == 0 ? 2 : 0);
            if (half[miles] > 0) {
                kindsBy(x, 0, miles, 7 + half[miles], 1 << 5, 0);
            }
        }
        lay(x, 0, 2, 1, 7, 2, 7, 3, 8);
        DUE.is("adder or rider", x.kinds(0, 0, 2, 0, 1, 0), 1 << 2 | 1 << 5);
        DUE.is("an adder", x.kinds(0, 0, 2, 0, 2, 0), 1 << 2);
        DUE.is("a rider", x.kinds(0, 0, 2, 4, 1, 0), 1 << 5);
        DUE.is("none", x.kinds(0, 0, 2, 0, 3, 0), 0);
        DUE.is("none, try", x.kinds(0, 0, 2, 0, 3, 1), NONE);
    }

    private static void kindsAsTheyAre() {
        DUE.by("KINDS by n pairs, likewise, SKILL, CARRIED as they are");
        RivalSorry x = Due.on("r3c000-,c1000,c090-;029;0");
        kindsBy(x, 1, 0, 3, 1 << 2 | 1 << 5, 2);
        x.carry(0, 1);
        kindsBy(x, 1, 0, 3, 1 << 2 | 1 << 4 | 1 << 5, 2);
        x.carry(0, 1);
        kindsBy(x, 1, 0, 3, 1 << 2 | 1 << 5, 2);
        kindsBy(x, 1, 2, 4, 1 << 4 | 1 << 5, 0);
    }

    private static void kindsTry() {
        DUE.by("SKILL, CARRIED as they are; TRY likewise.");
        RivalSorry x = Due.on("r3c000-,c1000,c090-;029;0");
        x.carry(0, 1);
        // By 4 miles a rider alone; a brother of CARRIED 1 and an adder say 3, a rider 3 by less than 2 miles.
        kindsBy(x, 1, 4, 5, 1 << 5, 0);
        kindsBy(x, 1, 1, 3, 1 << 2 | 1 << 4 | 1 << 5, 2);
        kindsBy(x, 1, 9, 3, 1 << 2 | 1 << 4, 0);
    }

    // ---- what pairs must be

    private static void pairsFit() {
        DUE.by("items of a SHEET, taken as a row of a LANE, from i on, as a set (what 0), TRY (1; NONE). BAD; NULL; CAST; INDEX");
        int[] sizes = {24, 20, 2, 1};
        for (int turn = 0; turn < 2; turn++) {
            boolean k = turn == 1;
            for (int s = 0; s < 4; s++) {
                RivalSorry x = Due.on(FIVE);
                x.sheet(s, s, sizes[s]);
                for (int i = -1; i <= 25; i++) {
                    DUE.is("one pair from " + i + " of " + sizes[s], ask(k, x, 3, s, s, i, 1, 0), i >= 0 && i + 2 <= sizes[s] ? 0 : INDEX);
                    DUE.is("ten pairs from " + i + " of " + sizes[s], ask(k, x, 3, s, s, i, 10, 0), i >= 0 && i + 20 <= sizes[s] ? 0 : INDEX);
                }
                DUE.is("far", ask(k, x, 3, s, s, LEAST, 1, 0), INDEX);
                DUE.is("far", ask(k, x, 3, s, s, GREATEST, 10, 0), INDEX);
                DUE.is("far", ask(k, x, 3, s, s, GREATEST - 1, 1, 0), INDEX);
            }
            RivalSorry x = Due.on(FIVE);
            x.sheet(0, 0, 0);
            DUE.is("no items", ask(k, x, 3, 0, 0, 0, 1, 0), INDEX);
        }
    }

    private static void pairsMiles() {
        DUE.by("NOT: an item that should be MILES 0 to 9 and is not.");
        for (int turn = 0; turn < 2; turn++) {
            boolean k = turn == 1;
            RivalSorry x = Due.on(FIVE);
            lay(x, 0, 3, new long[24]);
            for (int pair = 0; pair < 10; pair++) {
                long[] not = {-1, 10, 1L << 32, Long.MIN_VALUE, Long.MAX_VALUE};
                for (long miles : not) {
                    x.item(0, 3, 2 * pair, miles);
                    DUE.is("miles " + miles + " in pair " + pair, ask(k, x, 0, 0, 3, 0, 10, 0), NOT);
                }
                DUE.is("try", ask(k, x, 0, 0, 3, 0, 10, 1), NOT);
                DUE.is("taken as what was said", ask(k, x, 0, 0, 3, 2 * pair + 1, 1, 0) == NOT ? 1 : 0, 0);
                x.item(0, 3, 2 * pair, 9);
                DUE.is("miles 9 in pair " + pair, ask(k, x, 0, 0, 3, 0, 10, 0), k ? 0 : 1);
                x.item(0, 3, 2 * pair, 0);
            }
            x.item(0, 3, 20, -1);
            DUE.is("an item behind them may be any", ask(k, x, 0, 0, 3, 0, 10, 0), k ? 0 : 1);
            x.item(0, 3, 20, 0);
            x.item(0, 3, 0, -1);
            x.item(0, 3, 2, -1);
            DUE.is("items ahead of them may be any", ask(k, x, 0, 0, 3, 4, 10, 0), k ? 0 : 1);
            x.item(0, 3, 0, 0);
            x.item(0, 3, 2, 0);
            x.item(0, 3, 1, -1);
            DUE.is("what was said may be any", ask(k, x, 0, 0, 3, 0, 1, 0), 0);
            x.item(0, 3, 1, 10);
            DUE.is("what was said may be any", ask(k, x, 0, 0, 3, 0, 1, 0), 0);
        }
    }

    private static void pairsRefuse() {
        DUE.by("BAD; NULL; CAST; INDEX; NOT: as of skills().");
        for (int turn = 0; turn < 2; turn++) {
            boolean k = turn == 1;
            RivalSorry x = Due.on(FIVE);
            lay(x, 0, 2, -1, 0, 10, 0);
            int[][] bad = {{-1, 0, 2, 0, 1, 0}, {5, 0, 2, 0, 1, 0}, {0, -1, 2, 0, 1, 0}, {0, 4, 2, 0, 1, 0}, {0, 0, -1, 0, 1, 0},
                {0, 0, 4, 0, 1, 0}, {0, 0, 2, 0, 0, 0}, {0, 0, 2, 0, 11, 0}, {0, 0, 2, 0, -1, 0}, {0, 0, 2, 0, 1, -1}, {0, 0, 2, 0, 1, 2},
                {5, 1, 1, 9, 1, 0}, {0, 1, 4, 9, 1, 0}, {0, 1, 2, 9, 0, 0}, {0, 0, 1, 9, 11, 0}, {0, 0, 2, 9, 1, 2}, {0, 1, 1, 9, 1, 2},
                {LEAST, 0, 2, 0, 1, 0}, {0, GREATEST, 2, 0, 1, 0}, {0, 0, LEAST, 0, 1, 0}, {0, 0, 2, 0, GREATEST, 0}, {0, 0, 2, 0, LEAST, 0},
                {0, 0, 2, 0, 1, GREATEST}, {0, 0, 2, 0, 1 << 30, 0}};
            for (int[] a : bad) {
                DUE.is("pairs" + told(a), ask(k, x, a), BAD);
            }
            DUE.is("nothing, and far", ask(k, x, 0, 1, 1, 9, 1, 0), NULL);
            DUE.is("another lane, and far", ask(k, x, 0, 0, 1, 9, 1, 0), CAST);
            DUE.is("far, and no miles", ask(k, x, 0, 0, 2, 0, 3, 0), INDEX);
            DUE.is("no miles", ask(k, x, 0, 0, 2, 0, 2, 0), NOT);
            RivalSorry none = new RivalSorry();
            none.sheet(0, 0, 24);
            DUE.is("no coast", ask(k, none, 0, 0, 0, 0, 1, 0), BAD);
        }
    }
}
