/** Promises 7 to 14: acts, their undoing, images. */
public final class ActsTest {
    private static final Due DUE = new Due("ActsTest");

    public static void main(String[] args) {
        carryThatFails();
        carryThatForgives();
        carryThatWins();
        carryThatMayNotBe();
        sands();
        lend();
        sin();
        harden();
        pass();
        undoGoesBack24();
        images();
        DUE.end();
    }

    private static void carryThatFails() {
        int[] stings = {1, 1, 2, 0, 0};
        for (int k = 0; k < stings.length; k++) {
            String kind = "cafbr".substring(k, k + 1);
            RivalSorry x = Due.on("r3c000-,c033-," + kind + "0020;016,017,018,019;0");
            DUE.is("carry by " + kind, x.carry(0, 2), 0);
            DUE.is("weight behind " + kind, x.wrong(0, 2), 6 + stings[k]);
            DUE.is("it is open", x.wrong(0, 3), RivalSorry.NONE);
            DUE.is("where one is at", x.person(2, 4), 3);
            DUE.is("carried", x.person(2, 6), 1);
            DUE.is("wants still", x.person(2, 5), 0);
            DUE.is("the next day", x.count(3), 1);
            x.carry(2, 2);
            DUE.is("weight 8 behind " + kind, x.wrong(2, 2), Math.min(9, 8 + stings[k]));
            x.carry(3, 2);
            DUE.is("weight 9 behind " + kind, x.wrong(3, 2), 9);
        }
    }

    private static void carryThatForgives() {
        RivalSorry x = Due.on("r3c000-,c6010,c023-;012,024,027;0");
        DUE.is("carry, said is need and 1", x.carry(1, 1), 1);
        DUE.is("who had it forgiven", x.wrong(1, 3), 1);
        DUE.is("weight stays", x.wrong(1, 2), 4);
        DUE.is("won by nobody", x.person(2, 7), RivalSorry.NONE);
        DUE.is("where one is at", x.person(1, 4), 3);
        DUE.is("house stays", x.person(1, 3), 1);
        DUE.is("again", x.carry(1, 1), RivalSorry.NOT);
        DUE.is("the day", x.count(3), 1);
    }

    private static void carryThatWins() {
        RivalSorry x = Due.on("r4c000-,c7010,c8020,c033-;033,032,033;0");
        DUE.is("need", x.wrong(0, 4), 4);
        DUE.is("said is need and 3", x.comes(0, 1), 1);
        DUE.is("said is need and 4", x.carry(0, 2), 2);
        DUE.is("won by", x.person(3, 7), 2);
        DUE.is("who won wants nobody", x.person(2, 5), RivalSorry.NONE);
        DUE.is("who won is at", x.person(2, 4), 3);
        DUE.is("won before: forgiven alone", x.carry(1, 1), 1);
        DUE.is("won by still", x.person(3, 7), 2);
        DUE.is("wants still", x.person(1, 5), 0);
        DUE.is("who wants nobody may not", x.carry(2, 2), RivalSorry.NOT);
    }

    private static void carryThatMayNotBe() {
        RivalSorry x = Due.on("r3c9011,c9010,c902-;011,102,015;0");
        DUE.is("to whom it was done", x.carry(0, 1), RivalSorry.NOT);
        DUE.is("wants another one", x.carry(0, 0), RivalSorry.NOT);
        DUE.is("wants nobody", x.carry(0, 2), RivalSorry.NOT);
        DUE.is("no such wrong", x.carry(3, 0), RivalSorry.BAD);
        DUE.is("no such wrong", x.carry(-1, 0), RivalSorry.BAD);
        DUE.is("no such person", x.carry(0, 3), RivalSorry.BAD);
        DUE.is("no such person", x.carry(0, -1), RivalSorry.BAD);
        DUE.is("refused: the day", x.count(3), 0);
        DUE.is("refused: acts", x.count(7), 0);
    }

    private static void sands() {
        String[] tapes = {"r3c000-,c9040,c005-;021,021;", "r3c000-,c9050,c004-;021,021;"};
        for (String tape : tapes) {
            RivalSorry even = Due.on(tape + "0");
            DUE.is("over the sands on an even day", even.carry(0, 1), 2);
            RivalSorry odd = Due.on(tape + "1");
            DUE.is("over the sands on an odd day", odd.carry(0, 1), RivalSorry.NOT);
            odd.pass();
            DUE.is("over the sands a day later", odd.carry(0, 1), 2);
        }
        DUE.is("this side of them", Due.on("r3c000-,c9000,c004-;021;1").carry(0, 1), 2);
        DUE.is("that side of them", Due.on("r3c000-,c9050,c009-;021;1").carry(0, 1), 2);
        RivalSorry there = Due.on("r3c000-,c0040,c005-;021,021;0");
        DUE.is("over them", there.carry(0, 1), 0);
        DUE.is("from where one is at, not from the house", there.comes(1, 1), 0);
    }

    private static void lend() {
        RivalSorry x = Due.on("r3c000-,c9012,c002-;021,011;0");
        DUE.is("who wanted nobody", x.lend(0, 2), RivalSorry.NONE);
        DUE.is("wants then", x.person(0, 5), 2);
        DUE.is("who wanted another", x.lend(1, 0), 2);
        DUE.is("wants then", x.person(1, 5), 0);
        DUE.is("one does", x.lend(1, 0), RivalSorry.NOT);
        DUE.is("oneself", x.lend(1, 1), RivalSorry.BAD);
        DUE.is("oneself, who wants nobody", x.lend(2, 2), RivalSorry.BAD);
        DUE.is("no such", x.lend(3, 0), RivalSorry.BAD);
        DUE.is("no such", x.lend(0, 3), RivalSorry.BAD);
        DUE.is("no such", x.lend(-1, 0), RivalSorry.BAD);
        DUE.is("no such", x.lend(0, -1), RivalSorry.BAD);
        DUE.is("acts", x.count(7), 2);
        DUE.is("no day passes", x.count(3), 0);
        DUE.is("lent for a wrong", x.carry(0, 1), 2);
    }

    private static void sin() {
        RivalSorry x = Due.on("r2c000-,c090-;019;0");
        DUE.is("the same", x.sin(0, 0, 1), RivalSorry.BAD);
        DUE.is("weight 0", x.sin(0, 1, 0), RivalSorry.BAD);
        DUE.is("weight 10", x.sin(0, 1, 10), RivalSorry.BAD);
        DUE.is("no such", x.sin(2, 1, 1), RivalSorry.BAD);
        DUE.is("no such", x.sin(0, 2, 1), RivalSorry.BAD);
        DUE.is("no such", x.sin(-1, 1, 1), RivalSorry.BAD);
        DUE.is("no such", x.sin(0, -1, 1), RivalSorry.BAD);
        int[] weights = {0, 1, 9, 2, 8, 3, 5, 9};
        for (int w = 1; w < 8; w++) {
            DUE.is("a wrong more", x.sin(1, 0, weights[w]), w);
            DUE.is("its weight", x.wrong(w, 2), weights[w]);
            DUE.is("who did it", x.wrong(w, 0), 1);
            DUE.is("to whom", x.wrong(w, 1), 0);
            DUE.is("it is open", x.wrong(w, 3), RivalSorry.NONE);
        }
        DUE.is("a ninth", x.sin(1, 0, 1), RivalSorry.FULL);
        DUE.is("a bad ninth", x.sin(1, 1, 1), RivalSorry.BAD);
        DUE.is("acts", x.count(7), 7);
        DUE.is("no coast", new RivalSorry().sin(0, 1, 1), RivalSorry.BAD);
    }

    private static void harden() {
        RivalSorry x = Due.on("r2c030-,c090-;019;0");
        DUE.is("how one was", x.harden(0, 0), 3);
        DUE.is("how one was", x.harden(0, 9), 0);
        DUE.is("one is so", x.harden(0, 9), RivalSorry.NOT);
        DUE.is("hard", x.person(0, 2), 9);
        DUE.is("too hard", x.harden(0, 10), RivalSorry.BAD);
        DUE.is("too soft", x.harden(0, -1), RivalSorry.BAD);
        DUE.is("no such", x.harden(2, 1), RivalSorry.BAD);
        DUE.is("no such", x.harden(-1, 1), RivalSorry.BAD);
        DUE.is("acts", x.count(7), 2);
    }

    private static void pass() {
        DUE.is("no coast", new RivalSorry().pass(), RivalSorry.NOT);
        RivalSorry x = Due.on("r2c030-,c090-;019;1");
        DUE.is("pass", x.pass(), 2);
        DUE.is("pass", x.pass(), 3);
        DUE.is("the day", x.count(3), 3);
        DUE.is("acts", x.count(7), 2);
    }

    private static void undoGoesBack24() {
        RivalSorry x = Due.on("r2c030-,c090-;019;0");
        for (int day = 1; day <= 30; day++) {
            x.pass();
            DUE.is("acts that can be undone", x.count(7), Math.min(24, day));
        }
        for (int left = 23; left >= 0; left--) {
            DUE.is("undo", x.undo(), left);
        }
        DUE.is("undo", x.undo(), RivalSorry.NONE);
        DUE.is("the day 24 ago", x.count(3), 6);
    }

    private static void images() {
        RivalSorry x = Due.on("r4c000-,c9010,f1020,c033-;033,039,013;0");
        DUE.is("image(-1)", x.image(-1), RivalSorry.BAD);
        DUE.is("image(2)", x.image(2), RivalSorry.BAD);
        DUE.is("restore(-1)", x.restore(-1), RivalSorry.BAD);
        DUE.is("restore(2)", x.restore(2), RivalSorry.BAD);
        DUE.is("none was kept", x.restore(0), RivalSorry.NOT);
        DUE.is("no coast", new RivalSorry().image(1), RivalSorry.NOT);
        String first = Due.coastOf(x);
        DUE.is("image(0)", x.image(0), 0);
        DUE.is("wins", x.carry(0, 1), 2);
        DUE.is("image(1)", x.image(1), 1);
        String second = Due.coastOf(x);
        DUE.is("an image is no act", x.count(7), 1);
        x.harden(0, 5);
        DUE.is("restore(0)", x.restore(0), 0);
        DUE.same("as image 0 was", Due.coastOf(x), first);
        DUE.is("nothing can be undone", x.undo(), RivalSorry.NONE);
        x.sin(0, 1, 1);
        DUE.is("restore(1)", x.restore(1), 1);
        DUE.same("as image 1 was", Due.coastOf(x), second);
        DUE.is("restore(0) again", x.restore(0), 0);
        DUE.same("as image 0 was", Due.coastOf(x), first);
        x.pass();
        DUE.is("image over an image", x.image(0), 1);
        x.pass();
        DUE.is("the later one", x.restore(0), 1);
    }
}
