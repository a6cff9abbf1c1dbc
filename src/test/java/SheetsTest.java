/** Promises 24 to 30: sheets, and what is read from them and written on them. */
public final class SheetsTest {
    private static final Due DUE = new Due("SheetsTest");

    public static void main(String[] args) {
        sheet();
        drop();
        item();
        copy();
        log();
        skills();
        kinds();
        pairsRefused();
        DUE.end();
    }

    private static void sheet() {
        RivalSorry x = new RivalSorry();
        for (int s = 0; s < 4; s++) {
            DUE.is("sheet of 0", x.sheet(s, s, 0), 0);
            DUE.is("sheet of 24", x.sheet(s, s, 24), 24);
            x.item(s, s, 23, 5);
            DUE.is("a new row", x.sheet(s, s, 24), 24);
            x.sheet((s + 1) % 4, s, 24);
            x.copy(s, 23, (s + 1) % 4, 0, 1);
            DUE.is("of items 0", x.item(s, s, 23, 0), 0);
        }
        DUE.is("n 25", x.sheet(0, 0, 25), RivalSorry.BAD);
        DUE.is("n -1", x.sheet(0, 0, -1), RivalSorry.SIZE);
        DUE.is("sheet 4", x.sheet(4, 0, 1), RivalSorry.BAD);
        DUE.is("sheet -1", x.sheet(-1, 0, -1), RivalSorry.BAD);
        DUE.is("lane 4", x.sheet(0, 4, -1), RivalSorry.BAD);
        DUE.is("lane -1", x.sheet(0, -1, 1), RivalSorry.BAD);
        x.sheet(0, 2, 3);
        x.sheet(0, 1, -1);
        DUE.is("refused changes nothing", x.item(0, 2, 2, 9), 9);
        RivalSorry cleared = sheetOf(0, 3, 7, 8);
        cleared.sheet(0, 2, 2);
        Due.read(cleared, "r2c000-,c000-;011;0");
        DUE.is("the row is new", cleared.skills(0, 0, 2, 0, 1, 0), 1);
    }

    private static void drop() {
        RivalSorry x = new RivalSorry();
        x.sheet(3, 0, 7);
        DUE.is("drop", x.drop(3), 7);
        DUE.is("drop again", x.drop(3), RivalSorry.NULL);
        DUE.is("it holds nothing", x.item(3, 0, 0, 1), RivalSorry.NULL);
        x.sheet(3, 0, 0);
        DUE.is("drop of no items", x.drop(3), 0);
        DUE.is("drop(4)", x.drop(4), RivalSorry.BAD);
        DUE.is("drop(-1)", x.drop(-1), RivalSorry.BAD);
    }

    private static void item() {
        RivalSorry x = new RivalSorry();
        long v = 0x123456789ABCDEF0L;
        long[] low = {(byte) v, (short) v, (int) v, v};
        for (int lane = 0; lane < 4; lane++) {
            x.sheet(lane, lane, 2);
            DUE.is("lowest bits of lane " + lane, x.item(lane, lane, 1, v), low[lane]);
            DUE.is("-1 of lane " + lane, x.item(lane, lane, 0, -1), -1);
            DUE.is("index 2", x.item(lane, lane, 2, 1), RivalSorry.INDEX);
            DUE.is("index -1", x.item(lane, lane, -1, 1), RivalSorry.INDEX);
            DUE.is("another lane", x.item(lane, (lane + 1) % 4, 9, 1), RivalSorry.CAST);
            DUE.is("lane 4", x.item(lane, 4, 0, 1), RivalSorry.BAD);
            DUE.is("lane -1", x.item(lane, -1, 0, 1), RivalSorry.BAD);
        }
        DUE.is("200 as a byte", x.item(0, 0, 0, 200), -56);
        DUE.is("65535 as a short", x.item(1, 1, 0, 65535), -1);
        DUE.is("sheet 4", x.item(4, 0, 0, 1), RivalSorry.BAD);
        DUE.is("sheet -1", x.item(-1, 0, 0, 1), RivalSorry.BAD);
        x.drop(0);
        DUE.is("nothing", x.item(0, 1, 9, 1), RivalSorry.NULL);
    }

    /** An object with one sheet of these items. */
    private static RivalSorry sheetOf(int sheet, int lane, long... items) {
        RivalSorry x = new RivalSorry();
        lay(x, sheet, lane, items);
        return x;
    }

    private static void lay(RivalSorry x, int sheet, int lane, long... items) {
        x.sheet(sheet, lane, items.length);
        for (int i = 0; i < items.length; i++) {
            x.item(sheet, lane, i, items[i]);
        }
    }

    /** Tells an item by the skill of a carrier who would say it; items 0 to 9 alone. */
    private static void itemsAre(RivalSorry x, int sheet, int lane, long... items) {
        Due.read(x, "r2c000-,c000-;011;0");
        x.sheet(3, lane, 2);
        for (int i = 0; i < items.length; i++) {
            x.copy(sheet, i, 3, 1, 1);
            DUE.is("item " + i, x.skills(0, 3, lane, 0, 1, 0), 1L << items[i]);
        }
    }

    private static void copy() {
        RivalSorry x = sheetOf(0, 1, 1, 2, 3, 4, 5);
        DUE.is("copy up", x.copy(0, 0, 0, 1, 4), 4);
        itemsAre(x, 0, 1, 1, 1, 2, 3, 4);
        DUE.is("copy down", x.copy(0, 1, 0, 0, 4), 4);
        itemsAre(x, 0, 1, 1, 2, 3, 4, 4);
        x.sheet(1, 1, 3);
        DUE.is("to another", x.copy(0, 1, 1, 1, 2), 2);
        itemsAre(x, 1, 1, 0, 2, 3);
        DUE.is("none", x.copy(0, 5, 1, 3, 0), 0);
        DUE.is("none beyond", x.copy(0, 6, 1, 0, 0), RivalSorry.INDEX);
        DUE.is("none beyond", x.copy(0, 0, 1, 4, 0), RivalSorry.INDEX);
        DUE.is("n -1", x.copy(0, 0, 1, 0, -1), RivalSorry.INDEX);
        DUE.is("i -1", x.copy(0, -1, 1, 0, 1), RivalSorry.INDEX);
        DUE.is("j -1", x.copy(0, 0, 1, -1, 1), RivalSorry.INDEX);
        DUE.is("beyond the one", x.copy(0, 4, 1, 0, 2), RivalSorry.INDEX);
        DUE.is("beyond the other", x.copy(0, 0, 1, 2, 2), RivalSorry.INDEX);
        DUE.is("far beyond", x.copy(0, Integer.MAX_VALUE, 1, 0, Integer.MAX_VALUE), RivalSorry.INDEX);
        DUE.is("far beyond", x.copy(0, 1, 1, 1, Integer.MAX_VALUE), RivalSorry.INDEX);
        itemsAre(x, 1, 1, 0, 2, 3);
        DUE.is("nothing", x.copy(0, 9, 2, 9, 9), RivalSorry.NULL);
        DUE.is("from nothing", x.copy(2, 9, 0, 9, 9), RivalSorry.NULL);
        x.sheet(2, 2, 3);
        DUE.is("unlike lanes", x.copy(0, 9, 2, 9, 9), RivalSorry.CAST);
        DUE.is("sheet 4", x.copy(4, 0, 0, 0, 0), RivalSorry.BAD);
        DUE.is("sheet -1", x.copy(0, 0, -1, 0, 0), RivalSorry.BAD);
        x.drop(2);
        DUE.is("bad is ahead of null", x.copy(2, 0, 4, 0, 0), RivalSorry.BAD);
    }

    private static void log() {
        RivalSorry x = Due.on("r3c400-,r0030,b009-;021,011,201;0");
        x.sheet(0, 2, 5);
        DUE.is("log", x.log(1, 0, 2, 2), 3);
        itemsLogged(x, 0, 0, 5, 2, 3);
        DUE.is("log of no room", x.log(1, 0, 2, 3), RivalSorry.INDEX);
        DUE.is("i -1", x.log(1, 0, 2, -1), RivalSorry.INDEX);
        DUE.is("i far", x.log(1, 0, 2, Integer.MAX_VALUE), RivalSorry.INDEX);
        DUE.is("another lane", x.log(1, 0, 1, 9), RivalSorry.CAST);
        DUE.is("nothing", x.log(1, 1, 2, 9), RivalSorry.NULL);
        DUE.is("no such person", x.log(3, 0, 2, 0), RivalSorry.BAD);
        DUE.is("no such person", x.log(-1, 0, 2, 0), RivalSorry.BAD);
        DUE.is("sheet 4", x.log(0, 4, 2, 0), RivalSorry.BAD);
        DUE.is("lane 4", x.log(0, 0, 4, 0), RivalSorry.BAD);
        DUE.is("no coast", new RivalSorry().log(0, 0, 0, 0), RivalSorry.BAD);
        brotherInBytes();
    }

    /** Five items of sheet 0, an int each, told by a carrier (person 0) of whom a pair tells the skill. */
    private static void itemsLogged(RivalSorry x, long... items) {
        x.sheet(3, 2, 2);
        for (int i = 0; i < items.length; i++) {
            x.copy(0, i, 3, 1, 1);
            DUE.is("logged item " + i, x.skills(0, 3, 2, 0, 1, 0), 1L << items[i]);
        }
    }

    private static void brotherInBytes() {
        RivalSorry x = Due.on("r3c000-,b0010,c093-;029,019;0");
        for (int i = 0; i < 8; i++) {
            x.carry(0, 1);
        }
        x.sheet(0, 0, 2);
        DUE.is("log in bytes", x.log(1, 0, 0, 0), 2);
        x.sheet(1, 0, 2);
        x.copy(0, 0, 1, 1, 1);
        DUE.is("a brother who carried 8 says 10", x.kinds(1, 1, 0, 0, 1, 0), 1 << 4);
    }

    private static void skills() {
        RivalSorry x = Due.on("r5c000-,a0010,f002-,b003-,r009-;011;0");
        lay(x, 0, 3, 4, 6, 0, 6, 9, 6);
        DUE.is("carrier", x.skills(0, 0, 3, 0, 3, 0), 1 << 6);
        DUE.is("adder", x.skills(1, 0, 3, 0, 3, 0), 1 << 4);
        DUE.is("flat", x.skills(2, 0, 3, 0, 3, 0), 0);
        DUE.is("brother", x.skills(3, 0, 3, 0, 3, 0), 0);
        DUE.is("rider by one pair", x.skills(4, 0, 3, 0, 1, 0), 1 << 2);
        DUE.is("rider by the last pair", x.skills(4, 0, 3, 4, 1, 0), 1);
        DUE.is("rider by unlike pairs", x.skills(4, 0, 3, 0, 2, 0), 0);
        DUE.is("try with none", x.skills(4, 0, 3, 0, 2, 1), RivalSorry.NONE);
        DUE.is("try with one", x.skills(0, 0, 3, 0, 3, 1), 0);
        lay(x, 1, 1, 9, 3);
        DUE.is("flat: two", x.skills(2, 1, 1, 0, 1, 0), 3 << 6);
        DUE.is("flat: try", x.skills(2, 1, 1, 0, 1, 1), 0);
        lay(x, 1, 1, 9, 2);
        DUE.is("brother: any", x.skills(3, 1, 1, 0, 1, 0), 1023);
        lay(x, 1, 3, 0, 0x100000004L);
        DUE.is("said is all of a long", x.skills(0, 1, 3, 0, 1, 0), 0);
        long[] ten = new long[20];
        for (int i = 0; i < 20; i++) {
            ten[i] = i % 2 == 0 ? i / 2 : 8;
        }
        lay(x, 1, 0, ten);
        DUE.is("ten pairs", x.skills(0, 1, 0, 0, 10, 0), 1 << 8);
        x.item(1, 0, 19, 7);
        DUE.is("the tenth tells, too", x.skills(0, 1, 0, 0, 10, 0), 0);
    }

    private static void kinds() {
        RivalSorry x = Due.on("r3c400-,b2010,c002-;011;0");
        lay(x, 0, 2, 0, 4);
        DUE.is("skill 4 says 4", x.kinds(0, 0, 2, 0, 1, 0), 1 << 1);
        DUE.is("skill 2 says 4", x.kinds(1, 0, 2, 0, 1, 0), 1 << 2 | 1 << 5);
        DUE.is("try: a rider is told by 2 miles", x.kinds(1, 0, 2, 0, 1, 1), 2);
        lay(x, 0, 2, 0, 2);
        DUE.is("skill 4 says 2", x.kinds(0, 0, 2, 0, 1, 0), 1 << 3 | 1 << 4);
        DUE.is("try: no miles tell", x.kinds(0, 0, 2, 0, 1, 1), 0);
        DUE.is("skill 2 says 2", x.kinds(1, 0, 2, 0, 1, 0), 1 << 1 | 1 << 4);
        DUE.is("skill 0 says 2", x.kinds(2, 0, 2, 0, 1, 0), 1 << 2 | 1 << 4 | 1 << 5);
        DUE.is("try of three", x.kinds(2, 0, 2, 0, 1, 1), 2);
        lay(x, 0, 2, 9, 6);
        DUE.is("skill 0 says 6 by 9", x.kinds(2, 0, 2, 0, 1, 0), 1 << 5);
        lay(x, 0, 2, 9, 9);
        DUE.is("no kind", x.kinds(2, 0, 2, 0, 1, 0), 0);
        DUE.is("try of no kind", x.kinds(2, 0, 2, 0, 1, 1), RivalSorry.NONE);
        lay(x, 0, 2, 0, 0);
        DUE.is("skill 0 says 0", x.kinds(2, 0, 2, 0, 1, 0), 1 << 1 | 1 << 3);
    }

    private static int ask(RivalSorry x, boolean ofKinds, int... a) {
        return ofKinds ? x.kinds(a[0], a[1], a[2], a[3], a[4], a[5]) : x.skills(a[0], a[1], a[2], a[3], a[4], a[5]);
    }

    private static void pairsRefused() {
        for (int turn = 0; turn < 2; turn++) {
            boolean k = turn == 1;
            RivalSorry x = Due.on("r3c400-,b2010,c002-;011;0");
            lay(x, 0, 1, 3, 10, 10, 3, -1, 3);
            DUE.is("miles, said 10", ask(x, k, 0, 0, 1, 0, 1, 0), 0);
            DUE.is("miles 10", ask(x, k, 0, 0, 1, 0, 2, 0), RivalSorry.NOT);
            DUE.is("miles 10", ask(x, k, 0, 0, 1, 1, 1, 0), RivalSorry.NOT);
            DUE.is("miles -1", ask(x, k, 0, 0, 1, 4, 1, 1), RivalSorry.NOT);
            DUE.is("beyond is ahead of not", ask(x, k, 0, 0, 1, 0, 4, 0), RivalSorry.INDEX);
            DUE.is("i 5", ask(x, k, 0, 0, 1, 5, 1, 0), RivalSorry.INDEX);
            DUE.is("i -1", ask(x, k, 0, 0, 1, -1, 1, 0), RivalSorry.INDEX);
            DUE.is("i far", ask(x, k, 0, 0, 1, Integer.MAX_VALUE, 1, 0), RivalSorry.INDEX);
            DUE.is("another lane", ask(x, k, 0, 0, 2, 99, 1, 0), RivalSorry.CAST);
            DUE.is("nothing", ask(x, k, 0, 1, 2, 99, 1, 0), RivalSorry.NULL);
            DUE.is("no such person", ask(x, k, 3, 1, 1, 0, 1, 0), RivalSorry.BAD);
            DUE.is("no such person", ask(x, k, -1, 0, 1, 0, 1, 0), RivalSorry.BAD);
            DUE.is("sheet 4", ask(x, k, 0, 4, 1, 0, 1, 0), RivalSorry.BAD);
            DUE.is("lane 4", ask(x, k, 0, 1, 4, 0, 1, 0), RivalSorry.BAD);
            DUE.is("n 0", ask(x, k, 0, 1, 1, 0, 0, 0), RivalSorry.BAD);
            DUE.is("n 11", ask(x, k, 0, 1, 1, 0, 11, 0), RivalSorry.BAD);
            DUE.is("what 2", ask(x, k, 0, 1, 1, 0, 1, 2), RivalSorry.BAD);
            DUE.is("what -1", ask(x, k, 0, 1, 1, 0, 1, -1), RivalSorry.BAD);
            DUE.is("no coast", ask(new RivalSorry(), k, 0, 0, 0, 0, 1, 0), RivalSorry.BAD);
            lay(x, 2, 3, 0x100000003L, 4);
            DUE.is("miles are all of a long", ask(x, k, 0, 2, 3, 0, 1, 0), RivalSorry.NOT);
        }
    }
}
