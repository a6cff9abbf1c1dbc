/** Promises 15 to 23: what is foretold, while nothing changes. */
public final class ForetoldTest {
    private static final Due DUE = new Due("ForetoldTest");

    public static void main(String[] args) {
        said();
        comes();
        least();
        matchForgivesMost();
        matchWinsFewest();
        matchTakesTheFirst();
        matchRefuses();
        chain();
        reach();
        plan();
        planTakesTheFirst();
        planSeesWhatChanges();
        planRefuses();
        gusts();
        decades();
        decadesDrawByDraw();
        nothingChanges();
        DUE.end();
    }

    private static void said() {
        RivalSorry x = Due.on("r6c700-,a7010,f7030,b7040,r7090,c000-;051,011,401;1");
        int[] byFive = {7, 9, 3, 2, 13};
        for (int p = 0; p < byFive.length; p++) {
            DUE.is("said to 5 by " + p, x.said(0, p), byFive[p]);
        }
        DUE.is("a rider's way is from where one is at", x.said(1, 4), 13);
        DUE.is("a rider to the nearer", Due.on("r2r103-,r1040;014;0").said(0, 0), 3);
        RivalSorry brother = Due.on("r3c000-,b9010,c090-;029,029;0");
        DUE.is("a brother at first", brother.said(0, 1), 2);
        brother.carry(0, 1);
        brother.carry(0, 1);
        DUE.is("a brother who carried two", brother.said(1, 1), 4);
        DUE.is("no such wrong", x.said(3, 0), RivalSorry.BAD);
        DUE.is("no such wrong", x.said(-1, 0), RivalSorry.BAD);
        DUE.is("no such person", x.said(0, 6), RivalSorry.BAD);
        DUE.is("no such person", x.said(0, -1), RivalSorry.BAD);
        RivalSorry forgiven = Due.on("r3c000-,c9010,c002-;021;0");
        forgiven.carry(0, 1);
        DUE.is("of a wrong that is forgiven", forgiven.said(0, 1), 9);
    }

    private static void comes() {
        RivalSorry x = Due.on("r4c000-,c5010,a7021,c012-;035,036,031,011;0");
        DUE.is("said is need", x.comes(0, 1), 1);
        DUE.is("said is less", x.comes(1, 1), 0);
        DUE.is("said is need and 4", x.comes(2, 1), 2);
        DUE.is("may not", x.comes(3, 1), RivalSorry.NOT);
        DUE.is("may not", x.comes(0, 2), RivalSorry.NOT);
        DUE.is("no such wrong", x.comes(4, 1), RivalSorry.BAD);
        DUE.is("no such person", x.comes(0, 4), RivalSorry.BAD);
    }

    private static void least() {
        String[] kinds = {"c", "a", "f", "b", "r"};
        int[] dueOfFour = {4, 2, 8, RivalSorry.NONE, 1};
        int[] dueOfTwo = {2, 0, 4, 0, 0};
        int[] dueOfNine = {9, 7, RivalSorry.NONE, RivalSorry.NONE, 6};
        for (int k = 0; k < kinds.length; k++) {
            RivalSorry x = Due.on("r3c000-," + kinds[k] + "0000,c103-;024,022,029,019;0");
            DUE.is("least for 4 by " + kinds[k], x.least(0, 1), dueOfFour[k]);
            DUE.is("least for 2 by " + kinds[k], x.least(1, 1), dueOfTwo[k]);
            DUE.is("least for 9 by " + kinds[k], x.least(2, 1), dueOfNine[k]);
            DUE.is("may not", x.least(3, 1), RivalSorry.NOT);
        }
        RivalSorry x = Due.on("r3c000-,f0000,c193-;029,019;0");
        DUE.is("may not is ahead of none", x.least(0, 2), RivalSorry.NOT);
        DUE.is("none", x.least(0, 1), RivalSorry.NONE);
        DUE.is("no such wrong", x.least(2, 1), RivalSorry.BAD);
        DUE.is("no such person", x.least(0, 3), RivalSorry.BAD);
    }

    private static void matches(String tape, int... due) {
        RivalSorry x = Due.on(tape);
        for (int w = -1; w < due.length - 1; w++) {
            DUE.is("match(" + w + ") of " + tape, x.match(w), due[w + 1]);
        }
    }

    private static void matchForgivesMost() {
        // 1 could have both forgiven, 2 only the first.
        matches("r4c000-,c9010,c5020,c003-;035,039;0", 2, 2, 1);
        // One carries one alone.
        matches("r3c000-,c9010,c003-;029,029;0", 1, 1, -4);
        // By whom it would not be forgiven, carries none.
        matches("r3c000-,c1010,c003-;029,025;0", 0, -4, -4);
        RivalSorry x = Due.on("r3c000-,c9010,c003-;028,029;0");
        x.carry(0, 1);
        DUE.is("of open ones", x.match(-1), 1);
        DUE.is("one that is forgiven", x.match(0), RivalSorry.NONE);
        DUE.is("the open one", x.match(1), 1);
    }

    private static void matchWinsFewest() {
        // Either by 1 or 2; 1 would win 3, too.
        matches("r4c000-,c9010,c5020,c003-;035;0", 1, 2);
        // One more forgiven outweighs two won.
        matches("r4c000-,c9010,c9020,c003-;031,035;0", 2, 1, 2);
        // The weightier one wins nobody.
        matches("r3c000-,c9010,c003-;021,029;0", 1, -4, 1);
        // Who was won can not be won again, so the lesser one carries.
        RivalSorry x = Due.on("r5c000-,c9010,c5020,c003-,c9040;035,031;0");
        DUE.is("wins", x.carry(1, 4), 2);
        DUE.is("none would be won", x.match(0), 1);
    }

    private static void matchTakesTheFirst() {
        matches("r4c000-,c5010,c5020,c003-;035,035;0", 2, 1, 2);
        matches("r4c000-,c5010,c5020,c003-;035,035,035;0", 2, 1, 2, -4);
        // Somebody stands ahead of nobody.
        matches("r3c000-,c5010,c003-;025,025;0", 1, 1, -4);
    }

    private static void matchRefuses() {
        RivalSorry x = Due.on("r3c000-,c5010,c003-;025,025;0");
        DUE.is("match(-2)", x.match(-2), RivalSorry.BAD);
        DUE.is("match(2)", x.match(2), RivalSorry.BAD);
        DUE.is("no coast", new RivalSorry().match(-1), RivalSorry.NOT);
        DUE.is("no coast, no wrong", new RivalSorry().match(0), RivalSorry.BAD);
        matches("r3c000-,c9050,c003-;025;1", 0, -4);
    }

    private static void chain() {
        RivalSorry x = Due.on("r6c0001,c0002,c0003,c0001,c0005,c000-;015;0");
        int[] ahead = {1, 0, 0, 0, 2, 1};
        int[] round = {3, 3, 3, 3, 0, 0};
        for (int p = 0; p < 6; p++) {
            DUE.is("chain(" + p + ", 0)", x.chain(p, 0), ahead[p]);
            DUE.is("chain(" + p + ", 1)", x.chain(p, 1), round[p]);
        }
        RivalSorry all = Due.on("r6c0001,c0002,c0003,c0004,c0005,c0000;015;0");
        DUE.is("all come round", all.chain(3, 1), 6);
        DUE.is("none ahead", all.chain(3, 0), 0);
        RivalSorry longest = Due.on("r6c0001,c0002,c0003,c0004,c0005,c0004;015;0");
        DUE.is("four ahead", longest.chain(0, 0), 4);
        DUE.is("two come round", longest.chain(0, 1), 2);
        RivalSorry ends = Due.on("r6c0001,c0002,c0003,c0004,c0005,c000-;015;0");
        DUE.is("six, and it ends", ends.chain(0, 0), 6);
        DUE.is("it ends", ends.chain(0, 1), 0);
        DUE.is("no such", x.chain(6, 0), RivalSorry.BAD);
        DUE.is("no such", x.chain(-1, 0), RivalSorry.BAD);
        DUE.is("what 2", x.chain(0, 2), RivalSorry.BAD);
        DUE.is("what -1", x.chain(0, -1), RivalSorry.BAD);
    }

    private static void reach() {
        int[][] due = {{0, 1, 1, 1, 2, 3, 3, 3, 4, 4}, {0, 1, 1, 1, 2, 2, 2, 3, 3, 3}};
        for (int day = 0; day < 2; day++) {
            RivalSorry x = Due.on("r2c000-,c0090;015;" + day);
            for (int mile = 0; mile <= 9; mile++) {
                DUE.is("from 0 on day " + day + " to " + mile, x.reach(0, mile), due[day][mile]);
                DUE.is("from 9 on day " + day + " to " + (9 - mile), x.reach(1, 9 - mile), due[day][mile]);
            }
        }
        RivalSorry x = Due.on("r2c004-,c0090;105;1");
        DUE.is("stays for a day", x.reach(0, 5), 2);
        DUE.is("back", x.reach(0, 1), 1);
        x.pass();
        DUE.is("over at once", x.reach(0, 7), 1);
        DUE.is("no such", x.reach(2, 5), RivalSorry.BAD);
        DUE.is("no such", x.reach(-1, 5), RivalSorry.BAD);
        DUE.is("mile 10", x.reach(0, 10), RivalSorry.BAD);
        DUE.is("mile -1", x.reach(0, -1), RivalSorry.BAD);
    }

    private static void plans(String tape, int n, int... due) {
        RivalSorry x = Due.on(tape);
        for (int k = -1; k < n; k++) {
            DUE.is("plan(" + n + ", " + k + ") of " + tape, x.plan(n, k), due[k + 1]);
        }
        DUE.is("plan(" + n + ", n) of " + tape, x.plan(n, n), RivalSorry.NONE);
        DUE.is("plan(" + n + ", n + 1) of " + tape, x.plan(n, n + 1), RivalSorry.NONE);
    }

    private static void plan() {
        String two = "r3c000-,c9010,c003-;027,029;0";
        plans(two, 0, 0);
        plans(two, 1, 1, 1);
        plans(two, 2, 2, 1, 11);
        plans(two, 3, 2, 1, 11, 99);
    }

    private static void planTakesTheFirst() {
        // The first wrong fails ahead of the second: its code is less, and there is a day for it.
        plans("r3c000-,c5010,c003-;028,025;0", 1, 1, 11);
        plans("r3c000-,c5010,c003-;028,025;0", 2, 1, 1, 11);
        plans("r3c000-,c5010,c003-;028;0", 3, 0, 1, 1, 1);
        plans("r3c000-,c501-,c003-;028;0", 3, 0, 99, 99, 99);
        plans("r4c000-,c5010,c5020,c003-;035;0", 1, 1, 1);
    }

    private static void planSeesWhatChanges() {
        // A brother says more with each that he carried.
        plans("r3c000-,b0010,c003-;024;0", 3, 1, 1, 1, 1);
        plans("r3c000-,b0010,c003-;024;0", 2, 0, 1, 1);
        // Who wins carries no more; the weightier wrong, by which nobody is won, goes ahead.
        plans("r3c000-,c9010,c003-;021,029;0", 2, 2, 11, 1);
        // Nothing but to wait for the tide.
        plans("r3c000-,c5010,c008-;025;1", 2, 1, 99, 1);
        plans("r3c000-,c5010,c008-;025;1", 1, 0, 99);
        // What it stings tells: by 1 it fails twice and is too weighty for 2 then.
        plans("r4c000-,f0010,c5020,c003-;035;0", 2, 1, 2, 99);
    }

    private static void planRefuses() {
        RivalSorry x = Due.on("r3c000-,c9010,c003-;021;0");
        DUE.is("plan(-1, -1)", x.plan(-1, -1), RivalSorry.BAD);
        DUE.is("plan(4, -1)", x.plan(4, -1), RivalSorry.BAD);
        DUE.is("plan(3, -2)", x.plan(3, -2), RivalSorry.BAD);
        DUE.is("plan(4, 9)", x.plan(4, 9), RivalSorry.BAD);
        DUE.is("no coast", new RivalSorry().plan(3, 0), RivalSorry.NOT);
        DUE.is("no coast, bad", new RivalSorry().plan(4, 0), RivalSorry.BAD);
    }

    private static void gust(String tape, int q, int above, int below) {
        RivalSorry x = Due.on(tape);
        DUE.is("above, q " + q + " of " + tape, x.gusts(0, 1, q, 0), above);
        DUE.is("below, q " + q + " of " + tape, x.gusts(0, 1, q, 1), below);
    }

    private static void gusts() {
        String spare0 = "r3c000-,c5010,c003-;025;0";
        String spare1 = "r3c000-,c5010,c003-;024;0";
        String spare2 = "r3c000-,c5010,c003-;023;0";
        String spare3 = "r3c000-,c5010,c003-;022;0";
        String short1 = "r3c000-,c5010,c003-;026;0";
        gust(spare0, 5, 1, 8);
        gust(spare1, 5, 1, 2);
        gust(spare2, 5, 7, 8);
        gust(spare3, 5, 1, 1);
        gust(short1, 5, 0, 1);
        gust(spare0, 0, 1, 1);
        gust(spare0, 10, 0, 1);
        gust(spare2, 10, 0, 1);
        gust(spare3, 10, 1, 1);
        gust(spare0, 1, 729, 1000);
        gust(spare1, 1, 243, 250);
        gust(spare2, 3, 973, 1000);
        gust(short1, 0, 0, 1);
        RivalSorry x = Due.on("r3c000-,c5010,c003-;025,015;0");
        DUE.is("q 11", x.gusts(0, 1, 11, 0), RivalSorry.BAD);
        DUE.is("q -1", x.gusts(0, 1, -1, 0), RivalSorry.BAD);
        DUE.is("what 2", x.gusts(0, 1, 5, 2), RivalSorry.BAD);
        DUE.is("what -1", x.gusts(0, 1, 5, -1), RivalSorry.BAD);
        DUE.is("no such wrong", x.gusts(2, 1, 5, 0), RivalSorry.BAD);
        DUE.is("no such person", x.gusts(0, 3, 5, 0), RivalSorry.BAD);
        DUE.is("may not", x.gusts(1, 1, 5, 0), RivalSorry.NOT);
        DUE.is("may not, but bad", x.gusts(1, 1, 11, 0), RivalSorry.BAD);
    }

    private static void decades() {
        RivalSorry x = Due.on("r3c9012,c9020,c003-;025,212;0");
        DUE.is("a draw of wrong 1 by 0", x.decades(1, 1, 0), 1);
        DUE.is("who is won by it", x.decades(1, 1, 1), 2);
        DUE.is("no draw", x.decades(0, 1, 0), 0);
        DUE.is("no draw, won", x.decades(0, 1, 1), 0);
        x.carry(1, 0);
        DUE.is("forgiven ahead", x.decades(0, 5, 0), 1);
        DUE.is("won ahead", x.decades(0, 5, 1), 2);
        DUE.is("n 61", x.decades(61, 1, 0), RivalSorry.BAD);
        DUE.is("n -1", x.decades(-1, 1, 0), RivalSorry.BAD);
        DUE.is("seed 0", x.decades(1, 0, 0), RivalSorry.BAD);
        DUE.is("seed 1000000", x.decades(1, 1000000, 0), RivalSorry.BAD);
        DUE.is("what 2", x.decades(1, 1, 2), RivalSorry.BAD);
        DUE.is("what -1", x.decades(1, 1, -1), RivalSorry.BAD);
        DUE.is("no coast", new RivalSorry().decades(1, 1, 0), RivalSorry.NOT);
        DUE.is("no coast, bad", new RivalSorry().decades(61, 1, 0), RivalSorry.BAD);
        DUE.holds("the greatest", x.decades(60, 999999, 0) >= 1);
    }

    /** By seed 1 X is 16807, 282475249, 1622650073, 984943658: of 2 wrongs and 3 people 1 by 0, 1 by 0, 1 by 2, 0 by 1. */
    private static void decadesDrawByDraw() {
        int[][] forgiven = {{0, 1, 1, 1, 1}, {0, 0, 1, 1, 2}};
        int[][] won = {{0, 2, 2, 2, 2}, {0, 0, 2, 2, 3}};
        for (int day = 0; day < 2; day++) {
            // Over the sands either way, so a draw tells which day it is.
            RivalSorry x = Due.on("r3c9052,c9042,c000-;201,211;" + day);
            for (int n = 0; n <= 4; n++) {
                DUE.is("forgiven by " + n + " draws from day " + day, x.decades(n, 1, 0), forgiven[day][n]);
                DUE.is("won by " + n + " draws from day " + day, x.decades(n, 1, 1), won[day][n]);
            }
        }
    }

    private static void nothingChanges() {
        RivalSorry x = Due.on("r4c000-,c9010,b5020,r003-;035,039,012;0");
        x.match(-1);
        x.plan(3, 0);
        x.decades(60, 7, 0);
        x.gusts(0, 1, 3, 0);
        x.comes(0, 1);
        DUE.is("the day", x.count(3), 0);
        DUE.is("open ones", x.count(2), 7);
        DUE.is("carried", x.count(4), 0);
        DUE.is("won", x.count(5), 0);
        DUE.is("weight", x.count(6), 16);
        DUE.is("acts", x.count(7), 0);
        for (int p = 0; p < 4; p++) {
            DUE.is("where one is at", x.person(p, 4), p);
        }
    }
}
