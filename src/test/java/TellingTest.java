/** Promises 1 to 6: a new object, the tape, what is told of people and wrongs; and 31, count. */
public final class TellingTest {
    private static final Due DUE = new Due("TellingTest");
    private static final String FIVE_KINDS = "r5c5021,a3470,f8290,b1150,r288-;014,105,025,121,433;1";

    public static void main(String[] args) {
        newObject();
        feed();
        coastIsRead();
        faults();
        coastTakesThePlace();
        person();
        as();
        wrong();
        count();
        DUE.end();
    }

    private static void newObject() {
        RivalSorry x = new RivalSorry();
        for (int what = 0; what <= 8; what++) {
            DUE.is("new: count(" + what + ")", x.count(what), 0);
        }
        DUE.is("new: person", x.person(0, 0), RivalSorry.BAD);
        DUE.is("new: as", x.as(0, 0), RivalSorry.BAD);
        DUE.is("new: wrong", x.wrong(0, 0), RivalSorry.BAD);
        DUE.is("new: pass", x.pass(), RivalSorry.NOT);
        DUE.is("new: undo", x.undo(), RivalSorry.NONE);
        for (int sheet = 0; sheet < 4; sheet++) {
            DUE.is("new: drop", x.drop(sheet), RivalSorry.NULL);
        }
        DUE.is("new: restore", x.restore(1), RivalSorry.NOT);
    }

    private static void feed() {
        RivalSorry x = new RivalSorry();
        DUE.is("feed(-1)", x.feed(-1), RivalSorry.BAD);
        DUE.is("feed(256)", x.feed(256), RivalSorry.BAD);
        DUE.is("feed(min)", x.feed(Integer.MIN_VALUE), RivalSorry.BAD);
        DUE.is("feed(0)", x.feed(0), 1);
        DUE.is("feed(255)", x.feed(255), 2);
        for (int i = 3; i <= 130; i++) {
            DUE.is("feed", x.feed('r'), i);
        }
        DUE.is("feed of a full tape", x.feed('r'), RivalSorry.FULL);
        DUE.is("bad is named ahead of full", x.feed(256), RivalSorry.BAD);
        DUE.is("bytes of a full tape", x.count(8), 130);
        DUE.is("its fault", x.coast(), -100);
        DUE.is("feed again", x.feed('r'), 1);
    }

    private static void coastIsRead() {
        RivalSorry x = new RivalSorry();
        DUE.is("coast of five kinds", Due.read(x, FIVE_KINDS), 5);
        DUE.is("tape is empty", x.count(8), 0);
        DUE.is("least coast", Due.read(x, "r2c000-,c000-;011;0"), 1);
        DUE.is("people", x.count(0), 2);
        String greatest = "r6c9991,a9992,f9993,b9994,r9995,c9990;019,129,239,349,459,509,019,129;1";
        DUE.is("greatest coast", Due.read(x, greatest), 8);
        DUE.is("greatest coast: people", x.count(0), 6);
    }

    private static void fault(String tape, int place) {
        DUE.is("fault of " + tape, Due.read(new RivalSorry(), tape), -100 - place);
    }

    private static void faults() {
        for (int i = 0; i < FIVE_KINDS.length(); i++) {
            fault(FIVE_KINDS.substring(0, i), i);
            fault(FIVE_KINDS.substring(0, i) + " " + FIVE_KINDS.substring(i), i);
            fault(FIVE_KINDS.substring(0, i) + "x" + FIVE_KINDS.substring(i + 1), i);
            fault(FIVE_KINDS.substring(0, i) + (char) 0 + FIVE_KINDS.substring(i + 1), i);
            fault(FIVE_KINDS.substring(0, i) + (char) 255 + FIVE_KINDS.substring(i + 1), i);
        }
        fault(FIVE_KINDS + "0", FIVE_KINDS.length());
        fault(FIVE_KINDS + ";", FIVE_KINDS.length());
        fault("", 0);
        fault("R2", 0);
        fault("r1", 1);
        fault("r7", 1);
        fault("r2c000-;", 7);
        fault("r2c000-,c000-,", 13);
        fault("r2c0000", 6);
        fault("r2c0002", 6);
        fault("r2c0001,c0001", 12);
        fault("r3c000-,c000-,c000-;", 20);
        fault("r3c000-,c000-,c000-;;", 20);
        fault("r2c000-,c000-;201", 14);
        fault("r2c000-,c000-;001", 15);
        fault("r2c000-,c000-;021", 15);
        fault("r2c000-,c000-;010", 16);
        fault("r2c000-,c000-;011,;0", 18);
        fault("r2c000-,c000-;011;2", 18);
        fault("r2c000-,c000-;011;-", 18);
        String eight = "r2c000-,c000-;011,011,011,011,011,011,011,011";
        fault(eight + ",011;0", eight.length());
        fault(eight + ",", eight.length());
        DUE.is("eight wrongs", Due.read(new RivalSorry(), eight + ";0"), 8);
    }

    private static void coastTakesThePlace() {
        RivalSorry x = Due.on("r2c9041,c0040;012,105;0");
        x.sheet(2, 1, 3);
        x.image(0);
        DUE.is("a carry ahead", x.carry(1, 0), RivalSorry.NOT);
        DUE.is("a carry ahead", x.carry(0, 1), RivalSorry.NOT);
        DUE.is("a pass ahead", x.pass(), 1);
        DUE.is("a fault", Due.read(x, "r2c9041,c004;"), -112);
        DUE.is("all else stays: day", x.count(3), 1);
        DUE.is("all else stays: acts", x.count(7), 1);
        DUE.is("all else stays: undo", x.undo(), 0);
        x.pass();
        DUE.is("another coast", Due.read(x, "r3a1122,a223-,f334-;019;0"), 1);
        DUE.is("it stands: people", x.count(0), 3);
        DUE.is("it stands: wrongs", x.count(1), 1);
        DUE.is("it stands: day", x.count(3), 0);
        DUE.is("nothing can be undone", x.undo(), RivalSorry.NONE);
        DUE.is("sheets stay", x.drop(2), 3);
        DUE.is("images stay", x.restore(0), 0);
        DUE.is("images stay: people", x.count(0), 2);
    }

    private static void person() {
        RivalSorry x = Due.on(FIVE_KINDS);
        int[][] due = {{1, 5, 0, 2, 2, 1, 0, -4}, {2, 3, 4, 7, 7, 0, 0, -4}, {3, 8, 2, 9, 9, 0, 0, -4},
            {4, 1, 1, 5, 5, 0, 0, -4}, {5, 2, 8, 8, 8, -4, 0, -4}};
        for (int p = 0; p < due.length; p++) {
            for (int what = 0; what < 8; what++) {
                DUE.is("person(" + p + ", " + what + ")", x.person(p, what), due[p][what]);
            }
        }
        DUE.is("person(-1, 0)", x.person(-1, 0), RivalSorry.BAD);
        DUE.is("person(5, 0)", x.person(5, 0), RivalSorry.BAD);
        DUE.is("person(0, -1)", x.person(0, -1), RivalSorry.BAD);
        DUE.is("person(0, 8)", x.person(0, 8), RivalSorry.BAD);
    }

    private static void as() {
        RivalSorry x = Due.on(FIVE_KINDS);
        String[] kindsOf = {"01", "012", "013", "04", "0125"};
        for (int p = 0; p < kindsOf.length; p++) {
            for (int kind = 0; kind <= 5; kind++) {
                int due = kindsOf[p].indexOf((char) ('0' + kind)) >= 0 ? p : RivalSorry.CAST;
                DUE.is("as(" + p + ", " + kind + ")", x.as(p, kind), due);
            }
        }
        DUE.is("as(0, 6)", x.as(0, 6), RivalSorry.BAD);
        DUE.is("as(0, -1)", x.as(0, -1), RivalSorry.BAD);
        DUE.is("as(5, 0)", x.as(5, 0), RivalSorry.BAD);
        DUE.is("as(-1, 0)", x.as(-1, 0), RivalSorry.BAD);
    }

    private static void wrong() {
        RivalSorry x = Due.on(FIVE_KINDS);
        int[][] due = {{0, 1, 4, -4, 6}, {1, 0, 5, -4, 5}, {0, 2, 5, -4, 6}, {1, 2, 1, -4, 2}, {4, 3, 3, -4, 3}};
        for (int w = 0; w < due.length; w++) {
            for (int what = 0; what < 5; what++) {
                DUE.is("wrong(" + w + ", " + what + ")", x.wrong(w, what), due[w][what]);
            }
        }
        x.harden(3, 9);
        DUE.is("need of who is harder", x.wrong(4, 4), 7);
        DUE.is("wrong(-1, 0)", x.wrong(-1, 0), RivalSorry.BAD);
        DUE.is("wrong(5, 0)", x.wrong(5, 0), RivalSorry.BAD);
        DUE.is("wrong(0, 5)", x.wrong(0, 5), RivalSorry.BAD);
        DUE.is("wrong(0, -1)", x.wrong(0, -1), RivalSorry.BAD);
    }

    private static void count() {
        RivalSorry x = Due.on("r3c9002,c9112,c0020;201,212,019,127;0");
        Due.feedAll(x, "ab");
        DUE.is("a carry that wins", x.carry(1, 0), 2);
        DUE.is("a carry that forgives", x.carry(0, 1), 2);
        long[] due = {3, 4, 12, 2, 2, 3, 16, 2, 2};
        for (int what = 0; what < due.length; what++) {
            DUE.is("count(" + what + ")", x.count(what), due[what]);
        }
        DUE.is("count(-1)", x.count(-1), RivalSorry.BAD);
        DUE.is("count(9)", x.count(9), RivalSorry.BAD);
    }
}
