/** The boundaries that the document names for what is carried and for acts (promises 7 to 14), sentence by sentence. */
public final class ActsEdgesTest {
    private static final Due DUE = new Due("ActsEdgesTest");
    private static final int BAD = RivalSorry.BAD, NOT = RivalSorry.NOT, FULL = RivalSorry.FULL, NONE = RivalSorry.NONE;
    private static final int LEAST = Integer.MIN_VALUE, GREATEST = Integer.MAX_VALUE;
    private static final String TWO = "r2c000-,c000-;011;0";
    /** Rivals of 0 are 1 (skilled) and 2 (flat); 3 is done wrong. */
    private static final String FOUR = "r4c000-,c9010,f1020,c033-;033,039,013;0";

    public static void main(String[] args) {
        sands();
        milesOfAWay();
        mayOpen();
        mayWants();
        mayNotWhom();
        mayFromWhereOneIsAt();
        mayToTheHouse();
        saidBySkill();
        saidByBrother();
        saidByRider();
        cutTowardsZero();
        stings();
        need();
        comesByNeed();
        nineAtMost();
        wonByNobodyBefore();
        whoCarriedIt();
        acts24();
        actsRound();
        theLatestFirst();
        whatIsNoAct();
        carryRefuses();
        carryOnTheLastDay();
        lend();
        sin();
        sinOfEight();
        harden();
        pass();
        passOnTheLastDay();
        undo();
        image();
        imageIsKept();
        restore();
        restoreUndoesNothing();
        DUE.end();
    }

    // ---- who may

    private static void sands() {
        DUE.by("THE SANDS lie between MILES 4 and 5: on a DAY that is odd nobody passes them.");
        for (int cell = 0; cell < 400; cell++) {
            int from = cell % 10;
            int to = cell / 10 % 10;
            int day = cell / 100;
            RivalSorry x = Due.on("r3c000-,c90" + from + "0,c00" + to + "-;021;" + day % 2);
            for (int d = day % 2; d < day; d++) {
                x.pass();
            }
            boolean barred = day % 2 == 1 && Math.min(from, to) <= 4 && Math.max(from, to) >= 5;
            String way = "from " + from + " to " + to + " on day " + day;
            DUE.is("comes " + way, x.comes(0, 1), barred ? NOT : 2);
            DUE.is("carry " + way, x.carry(0, 1), barred ? NOT : 2);
        }
    }

    private static void milesOfAWay() {
        DUE.by("MILES of a way: how far off.");
        for (int cell = 0; cell < 100; cell++) {
            int from = cell % 10;
            int to = cell / 10;
            RivalSorry x = Due.on("r3c000-,r00" + from + "0,c00" + to + "-;021;0");
            int miles = from > to ? from - to : to - from;
            DUE.is("a rider from " + from + " to " + to, x.said(0, 1), 2 + miles / 2);
        }
    }

    private static void mayOpen() {
        DUE.by("MAY one carry a WRONG: it is open");
        RivalSorry x = Due.on("r4c000-,c9010,c002-,c9040;029,021;0");
        DUE.is("it is open", x.comes(0, 1), 1);
        DUE.is("forgiven", x.carry(0, 1), 1);
        DUE.is("it is forgiven", x.carry(0, 1), NOT);
        DUE.is("it is forgiven, by another one", x.carry(0, 3), NOT);
        DUE.is("another one is open", x.comes(1, 1), 2);
        DUE.is("undone", x.undo(), 0);
        DUE.is("it is open again", x.comes(0, 3), 1);
        RivalSorry failed = Due.on("r3c000-,c0010,c002-;029;0");
        DUE.is("fails", failed.carry(0, 1), 0);
        DUE.is("it is open still", failed.carry(0, 1), 0);
    }

    private static void mayWants() {
        DUE.by("one WANTS to be who did it");
        RivalSorry x = Due.on("r4c000-,c9010,c002-,c904-;021;0");
        DUE.is("wants who did it", x.comes(0, 1), 2);
        DUE.is("wants nobody", x.comes(0, 3), NOT);
        x.lend(3, 2);
        DUE.is("wants whom it was done to", x.comes(0, 3), NOT);
        x.lend(3, 1);
        DUE.is("wants another one", x.comes(0, 3), NOT);
        x.lend(3, 0);
        DUE.is("wants who did it then", x.comes(0, 3), 2);
        x.lend(0, 1);
        DUE.is("who did it", x.comes(0, 0), NOT);
    }

    private static void mayNotWhom() {
        DUE.by("is not to whom it was done");
        RivalSorry x = Due.on("r3c000-,c9010,c900-;011,021;0");
        DUE.is("to oneself", x.carry(0, 1), NOT);
        DUE.is("to another one", x.carry(1, 1), 2);
    }

    private static void mayFromWhereOneIsAt() {
        DUE.by("need not pass THE SANDS on an odd DAY from where one is AT to the HOUSE of that one");
        RivalSorry x = Due.on("r4c000-,c0040,c005-,c004-;029,039;0");
        DUE.is("over the sands", x.carry(0, 1), 0);
        DUE.is("where one is at", x.person(1, 4), 5);
        DUE.is("from there to 5 on an odd day", x.comes(0, 1), 0);
        DUE.is("from there to 4 on an odd day", x.comes(1, 1), NOT);
        x.pass();
        DUE.is("from there to 4 on an even day", x.comes(1, 1), 0);
    }

    private static void mayToTheHouse() {
        DUE.by("to the HOUSE of that one");
        RivalSorry x = Due.on("r4c000-,c9040,c0050,c004-;021,039;0");
        DUE.is("whom it was done to goes off", x.carry(1, 2), 0);
        DUE.is("where that one is at", x.person(2, 4), 4);
        DUE.is("the house is over the sands still", x.comes(0, 1), NOT);
        RivalSorry rider = Due.on("r4c000-,r0040,c0090,c004-;021,039;0");
        DUE.is("a rider to the house", rider.said(0, 1), 4);
        DUE.is("whom it was done to goes off", rider.carry(1, 2), 0);
        DUE.is("a rider to the house still", rider.said(0, 1), 4);
    }

    // ---- what is said

    private static void saidBySkill() {
        DUE.by("What is SAID: by a CARRIER SKILL; by an ADDER as by a CARRIER, 2 more; by one who is FLAT half of a CARRIER's");
        int[] half = {0, 0, 1, 1, 2, 2, 3, 3, 4, 4};
        for (int skill = 0; skill <= 9; skill++) {
            DUE.is("carrier of " + skill, saidBy("c" + skill, 9), skill);
            DUE.is("adder of " + skill, saidBy("a" + skill, 9), skill + 2);
            DUE.is("flat of " + skill, saidBy("f" + skill, 9), half[skill]);
        }
    }

    private static int saidBy(String kindAndSkill, int house) {
        return Due.on("r3c000-," + kindAndSkill + "000,c00" + house + "-;021;0").said(0, 1);
    }

    private static void saidByBrother() {
        DUE.by("by a BROTHER CARRIED, 2 more");
        RivalSorry x = Due.on("r3c000-,b9000,c093-;029;0");
        for (int carried = 0; carried < 11; carried++) {
            DUE.is("carried " + carried, x.said(0, 1), carried + 2);
            DUE.is("carried " + carried + ": less than 13", x.carry(0, 1), 0);
        }
        DUE.is("a brother carried eleven", x.person(1, 6), 11);
        DUE.is("carried 11", x.said(0, 1), 13);
        DUE.is("carried 11: it is enough", x.carry(0, 1), 1);
        DUE.is("carried 12", x.said(0, 1), 14);
        DUE.is("skill tells nothing", saidBy("b0", 9), 2);
    }

    private static void saidByRider() {
        DUE.by("by a RIDER as by an ADDER, and half of MILES of the way");
        int[] half = {0, 0, 1, 1, 2, 2, 3, 3, 4, 4};
        for (int cell = 0; cell < 100; cell++) {
            int skill = cell / 10;
            int miles = cell % 10;
            DUE.is("rider of " + skill + " by " + miles, saidBy("r" + skill, miles), skill + 2 + half[miles]);
        }
    }

    private static void cutTowardsZero() {
        DUE.by("What is divided is cut towards 0.");
        DUE.is("half of skill 1", saidBy("f1", 9), 0);
        DUE.is("half of skill 9", saidBy("f9", 9), 4);
        DUE.is("half of 1 mile", saidBy("r0", 1), 2);
        DUE.is("half of 9 miles", saidBy("r0", 9), 6);
        DUE.is("half of hard 1", Due.on("r2c000-,c010-;011;0").wrong(0, 4), 1);
        DUE.is("half of hard 9", Due.on("r2c000-,c090-;011;0").wrong(0, 4), 5);
    }

    private static void stings() {
        DUE.by("It STINGS by a CARRIER by 1, by an ADDER as by a CARRIER, by one who is FLAT by twice that, "
            + "by a BROTHER by 0, by a RIDER 1 less than by an ADDER.");
        int[] due = {1, 1, 2, 0, 0};
        for (int k = 0; k < 5; k++) {
            RivalSorry x = Due.on("r3c000-," + "cafbr".charAt(k) + "0000,c090-;021,025;0");
            DUE.is("fails", x.carry(0, 1), 0);
            DUE.is("weight by " + "cafbr".charAt(k), x.wrong(0, 2), 1 + due[k]);
            DUE.is("another wrong", x.wrong(1, 2), 5);
        }
    }

    private static void need() {
        DUE.by("NEED: WEIGHT, and half of HARD of whom it was done to.");
        int[] half = {0, 0, 1, 1, 2, 2, 3, 3, 4, 4};
        for (int hard = 0; hard <= 9; hard++) {
            RivalSorry x = Due.on("r2c0" + (9 - hard) + "0-,c0" + hard + "0-;011,019,101;0");
            DUE.is("weight 1, hard " + hard, x.wrong(0, 4), 1 + half[hard]);
            DUE.is("weight 9, hard " + hard, x.wrong(1, 4), 9 + half[hard]);
            DUE.is("weight 1, hard " + (9 - hard), x.wrong(2, 4), 1 + half[9 - hard]);
        }
    }

    // ---- what comes of it

    private static void comesByNeed() {
        DUE.by("A WRONG is CARRIED: if SAID is less than NEED, WEIGHT is more by what it STINGS (9 at most); else it is FORGIVEN; "
            + "if SAID is NEED and 4 or more");
        for (int cell = 0; cell < 360; cell++) {
            int skill = cell % 10;
            int weight = 1 + cell / 10 % 9;
            int hard = cell / 90;
            int need = weight + hard / 2;
            int due = skill < need ? 0 : skill < need + 4 ? 1 : 2;
            RivalSorry x = Due.on("r3c000-,c" + skill + "000,c0" + hard + "0-;02" + weight + ";0");
            String how = " of " + skill + " for " + weight + ", hard " + hard;
            DUE.is("comes" + how, x.comes(0, 1), due);
            DUE.is("carry" + how, x.carry(0, 1), due);
            DUE.is("forgiven by" + how, x.wrong(0, 3), due == 0 ? NONE : 1);
            DUE.is("weight" + how, x.wrong(0, 2), due == 0 ? Math.min(9, weight + 1) : weight);
            DUE.is("won by" + how, x.person(2, 7), due == 2 ? 1 : NONE);
            DUE.is("wants" + how, x.person(1, 5), due == 2 ? NONE : 0);
        }
    }

    private static void nineAtMost() {
        DUE.by("WEIGHT is more by what it STINGS (9 at most)");
        int[] stings = {1, 1, 2, 0, 0};
        for (int k = 0; k < 5; k++) {
            for (int weight = 6; weight <= 9; weight++) {
                RivalSorry x = Due.on("r3c000-," + "cafbr".charAt(k) + "0000,c090-;02" + weight + ";0");
                x.carry(0, 1);
                DUE.is("weight " + weight + " by " + "cafbr".charAt(k), x.wrong(0, 2), Math.min(9, weight + stings[k]));
                x.carry(0, 1);
                DUE.is("once more", x.wrong(0, 2), Math.min(9, weight + 2 * stings[k]));
            }
        }
    }

    private static void wonByNobodyBefore() {
        DUE.by("and whom it was done to was WON by nobody, that one is WON by who carried it, who WANTS to be nobody then");
        RivalSorry x = Due.on("r5c000-,c9010,c9020,c9030,c004-;041,041,031;0");
        DUE.is("won by nobody before", x.carry(0, 1), 2);
        DUE.is("that one is won by who carried it", x.person(4, 7), 1);
        DUE.is("who did it is not", x.person(0, 7), NONE);
        DUE.is("who carried it is not", x.person(1, 7), NONE);
        DUE.is("who carried it wants nobody", x.person(1, 5), NONE);
        DUE.is("won before", x.carry(1, 2), 1);
        DUE.is("won by the first", x.person(4, 7), 1);
        DUE.is("the second wants still", x.person(2, 5), 0);
        DUE.is("another one is won by the second", x.carry(2, 2), 2);
        DUE.is("won by", x.person(3, 7), 2);
        for (int left = 2; left >= 0; left--) {
            DUE.is("undo", x.undo(), left);
        }
        DUE.is("won by nobody again", x.carry(1, 2), 2);
        DUE.is("won by the second then", x.person(4, 7), 2);
    }

    private static void whoCarriedIt() {
        DUE.by("Who carried it is AT that HOUSE, CARRIED is 1 more; it is the next DAY.");
        int[] skills = {4, 5, 9};
        for (int comes = 0; comes <= 2; comes++) {
            RivalSorry x = Due.on("r3c009-,c" + skills[comes] + "020,c004-;025;0");
            DUE.is("carry", x.carry(0, 1), comes);
            DUE.is("at that house", x.person(1, 4), 4);
            DUE.is("the own house stays", x.person(1, 3), 2);
            DUE.is("carried", x.person(1, 6), 1);
            DUE.is("carried by who did it", x.person(0, 6), 0);
            DUE.is("whom it was done to stays", x.person(2, 4), 4);
            DUE.is("the day", x.count(3), 1);
        }
    }

    // ---- acts

    private static void acts24() {
        DUE.by("ACTS (the latest 24 can be undone, the latest first)");
        for (int acts = 22; acts <= 26; acts++) {
            RivalSorry x = Due.on(TWO);
            for (int act = 0; act < acts; act++) {
                x.pass();
            }
            int can = Math.min(24, acts);
            DUE.is("acts that can be undone of " + acts, x.count(7), can);
            for (int undone = 1; undone <= can; undone++) {
                DUE.is("undo of " + acts, x.undo(), can - undone);
                DUE.is("the day", x.count(3), acts - undone);
            }
            DUE.is("no more of " + acts, x.undo(), NONE);
            DUE.is("the day", x.count(3), acts - can);
        }
    }

    private static void actsRound() {
        DUE.by("the latest 24 can be undone");
        RivalSorry x = Due.on(TWO);
        passes(x, 30);
        undoes(x, 10);
        DUE.is("of 24 less 10", x.count(7), 14);
        passes(x, 20);
        DUE.is("24 again", x.count(7), 24);
        DUE.is("the day", x.count(3), 40);
        undoes(x, 24);
        DUE.is("24 days ago", x.count(3), 16);
        DUE.is("no more", x.undo(), NONE);
        passes(x, 1);
        DUE.is("an act more", x.undo(), 0);
        DUE.is("the day", x.count(3), 16);
    }

    private static void passes(RivalSorry x, int times) {
        for (int i = 0; i < times; i++) {
            x.pass();
        }
    }

    private static void undoes(RivalSorry x, int times) {
        for (int i = 0; i < times; i++) {
            x.undo();
        }
    }

    private static void act(RivalSorry x, int which) {
        int[] due = {2, 0, NONE, 3, 3, 3};
        int got = which == 0 ? x.carry(0, 1) : which == 1 ? x.carry(1, 2) : which == 2 ? x.lend(3, 0)
            : which == 3 ? x.sin(3, 0, 4) : which == 4 ? x.harden(3, 8) : x.pass();
        DUE.is("act " + which, got, due[which]);
    }

    private static RivalSorry actedUpTo(int acts) {
        RivalSorry x = Due.on(FOUR.replace("c9010", "c9110"));
        for (int which = 0; which < acts; which++) {
            act(x, which);
        }
        return x;
    }

    private static void theLatestFirst() {
        DUE.by("a WRONG is CARRIED; one is LENT (WANTS to be another one); a WRONG more is done; one is otherwise HARD; a DAY passes.");
        RivalSorry x = actedUpTo(6);
        for (int left = 5; left >= 0; left--) {
            DUE.is("undo", x.undo(), left);
            DUE.same("as it was behind " + left, Due.wholeOf(x), Due.wholeOf(actedUpTo(left)));
        }
        DUE.is("none can", x.undo(), NONE);
    }

    private static void whatIsNoAct() {
        DUE.by("What is refused changes nothing, but as told.");
        RivalSorry x = Due.on(FOUR);
        x.pass();
        x.image(0);
        x.sheet(0, 0, 3);
        x.feed('r');
        x.coast();
        x.carry(0, 3);
        x.carry(9, 9);
        x.lend(1, 0);
        x.lend(1, 1);
        x.sin(0, 0, 1);
        x.harden(3, 3);
        x.harden(3, 10);
        x.restore(1);
        x.plan(3, 0);
        DUE.is("one act", x.count(7), 1);
        DUE.is("undo", x.undo(), 0);
        DUE.is("the day", x.count(3), 0);
    }

    // ---- the calls

    private static void carryRefuses() {
        DUE.by("A WRONG is CARRIED by a PERSON: what comes of it, as COMES. BAD; NOT: this one MAY not; FULL: it is DAY 9999.");
        RivalSorry x = Due.on(FOUR);
        int[][] bad = {{-1, 1}, {3, 1}, {0, -1}, {0, 4}, {LEAST, 1}, {GREATEST, 1}, {0, LEAST}, {0, GREATEST}, {-1, -1}, {3, 4}};
        for (int[] call : bad) {
            DUE.is("carry(" + call[0] + ", " + call[1] + ")", x.carry(call[0], call[1]), BAD);
        }
        DUE.is("may not", x.carry(0, 0), NOT);
        DUE.is("may not", x.carry(2, 1), NOT);
        DUE.same("nothing changed", Due.wholeOf(x), Due.wholeOf(Due.on(FOUR)));
        DUE.is("the last wrong, as comes", x.carry(2, 2), 0);
        DUE.is("the first wrong, as comes", x.carry(0, 1), 2);
    }

    /** More calls than the 512 that the document promises an object: there is no shorter way to that DAY. */
    private static RivalSorry onDay(String tape, int day) {
        RivalSorry x = Due.on(tape);
        for (int d = x.count(3); d < day; d++) {
            x.pass();
        }
        DUE.is("the day", x.count(3), day);
        return x;
    }

    private static void carryOnTheLastDay() {
        DUE.by("FULL: it is DAY 9999");
        RivalSorry x = onDay("r4c000-,c9010,c003-,c005-;029,021,031;1", 9998);
        DUE.is("on the day ahead", x.carry(0, 1), 1);
        DUE.is("the last day", x.count(3), 9999);
        DUE.is("carry on the last day", x.carry(1, 1), FULL);
        DUE.is("may not, and full: not open", x.carry(0, 1), NOT);
        DUE.is("may not, and full: over the sands", x.carry(2, 1), NOT);
        DUE.is("bad, and full", x.carry(3, 1), BAD);
        DUE.is("it is open still", x.wrong(1, 3), NONE);
        DUE.is("the day", x.count(3), 9999);
        DUE.is("acts", x.count(7), 24);
        DUE.is("foretold all the same", x.comes(1, 1), 2);
        DUE.is("undone", x.undo(), 23);
        DUE.is("the day ahead", x.carry(1, 1), 2);
    }

    private static void lend() {
        DUE.by("LENT: one WANTS to be another one: whom one wanted to be (NONE). BAD (the same, too); NOT: one does.");
        RivalSorry x = Due.on("r3c000-,c0012,c002-;021;0");
        int[][] bad = {{0, 0}, {2, 2}, {-1, 0}, {3, 0}, {0, -1}, {0, 3}, {-1, -1}, {3, 3}, {0, NONE}, {LEAST, 0}, {0, GREATEST}};
        for (int[] call : bad) {
            DUE.is("lend(" + call[0] + ", " + call[1] + ")", x.lend(call[0], call[1]), BAD);
        }
        DUE.is("one does", x.lend(1, 2), NOT);
        DUE.is("no act", x.count(7), 0);
        DUE.is("wanted nobody", x.lend(0, 2), NONE);
        DUE.is("wants", x.person(0, 5), 2);
        DUE.is("one does then", x.lend(0, 2), NOT);
        DUE.is("wanted the last", x.lend(0, 1), 2);
        DUE.is("wanted the last", x.lend(1, 0), 2);
        DUE.is("wanted the first", x.lend(1, 2), 0);
        DUE.is("acts", x.count(7), 4);
        RivalSorry one = Due.on("r3c000-,c9010,c002-;021,021;0");
        DUE.is("wins", one.carry(0, 1), 2);
        DUE.is("who won wants nobody, and may be lent", one.lend(1, 0), NONE);
        DUE.is("and carries again", one.carry(1, 1), 1);
    }

    private static void sin() {
        DUE.by("A WRONG more (WEIGHT 1 .. 9): its number. BAD (no COAST, the same, too)");
        DUE.is("no coast", new RivalSorry().sin(0, 1, 1), BAD);
        RivalSorry x = Due.on(TWO);
        int[][] bad = {{0, 1, 0}, {0, 1, 10}, {0, 1, -1}, {0, 0, 1}, {1, 1, 9}, {-1, 0, 1}, {2, 0, 1}, {0, -1, 1}, {0, 2, 1},
            {LEAST, 0, 1}, {0, GREATEST, 1}, {0, 1, LEAST}, {0, 1, GREATEST}};
        for (int[] call : bad) {
            DUE.is("sin(" + call[0] + ", " + call[1] + ", " + call[2] + ")", x.sin(call[0], call[1], call[2]), BAD);
        }
        DUE.same("nothing changed", Due.wholeOf(x), Due.wholeOf(Due.on(TWO)));
        DUE.is("weight 1", x.sin(0, 1, 1), 1);
        DUE.is("weight 9", x.sin(1, 0, 9), 2);
        int[] due = {1, 0, 9, NONE, 9};
        for (int what = 0; what < 5; what++) {
            DUE.is("wrong(2, " + what + ")", x.wrong(2, what), due[what]);
        }
        DUE.is("the day", x.count(3), 0);
    }

    private static void sinOfEight() {
        DUE.by("FULL: 8.");
        RivalSorry x = Due.on("r3c000-,c9010,c002-;029,029,029,029,029,029;0");
        DUE.is("forgiven", x.carry(0, 1), 1);
        DUE.is("the seventh", x.sin(1, 2, 4), 6);
        DUE.is("the eighth", x.sin(2, 0, 5), 7);
        DUE.is("a ninth, though one is forgiven", x.sin(2, 0, 5), FULL);
        DUE.is("bad, and full", x.sin(2, 2, 5), BAD);
        DUE.is("bad, and full", x.sin(2, 0, 10), BAD);
        DUE.is("acts", x.count(7), 3);
        DUE.is("wrongs", x.count(1), 8);
        DUE.is("undone", x.undo(), 2);
        DUE.is("another eighth", x.sin(0, 1, 6), 7);
        DUE.is("its weight", x.wrong(7, 2), 6);
        DUE.is("eight as told", Due.on("r2c000-,c000-;011,011,011,011,011,011,011,011;0").sin(0, 1, 1), FULL);
    }

    private static void harden() {
        DUE.by("One is otherwise HARD (0 .. 9): how one was. BAD; NOT: one is so.");
        RivalSorry x = Due.on("r2c030-,c090-;019;0");
        int[][] bad = {{0, -1}, {0, 10}, {-1, 0}, {2, 0}, {LEAST, 0}, {GREATEST, 0}, {0, LEAST}, {0, GREATEST}, {2, 10}};
        for (int[] call : bad) {
            DUE.is("harden(" + call[0] + ", " + call[1] + ")", x.harden(call[0], call[1]), BAD);
        }
        DUE.is("one is so", x.harden(0, 3), NOT);
        DUE.is("one is so", x.harden(1, 9), NOT);
        DUE.is("no act", x.count(7), 0);
        DUE.is("harden(0, 0)", x.harden(0, 0), 3);
        DUE.is("one is so then", x.harden(0, 0), NOT);
        DUE.is("harden(0, 9)", x.harden(0, 9), 0);
        DUE.is("hard", x.person(0, 2), 9);
        DUE.is("harden(1, 8)", x.harden(1, 8), 9);
        DUE.is("acts", x.count(7), 3);
        DUE.is("the day", x.count(3), 0);
    }

    private static void pass() {
        DUE.by("A DAY passes: which it is then. NOT: no COAST");
        RivalSorry none = new RivalSorry();
        DUE.is("no coast", none.pass(), NOT);
        DUE.is("no act", none.count(7), 0);
        RivalSorry x = Due.on(TWO);
        DUE.is("from day 0", x.pass(), 1);
        DUE.is("from day 1", x.pass(), 2);
        DUE.is("from day 1 as told", Due.on("r2c000-,c000-;011;1").pass(), 2);
    }

    private static void passOnTheLastDay() {
        DUE.by("NOT: no COAST; FULL: it is DAY 9999.");
        RivalSorry x = onDay(TWO, 9998);
        DUE.is("to the last day", x.pass(), 9999);
        DUE.is("on the last day", x.pass(), FULL);
        DUE.is("the day", x.count(3), 9999);
        DUE.is("acts", x.count(7), 24);
        DUE.is("its image", x.image(0), 9999);
        DUE.is("as it was", x.restore(0), 9999);
        DUE.is("full still", x.pass(), FULL);
        DUE.is("nothing to undo", x.undo(), NONE);
    }

    private static void undo() {
        DUE.by("The latest ACT is undone: how many more can be. NONE: none can.");
        DUE.is("no coast", new RivalSorry().undo(), NONE);
        RivalSorry x = Due.on(TWO);
        DUE.is("no act", x.undo(), NONE);
        x.pass();
        DUE.is("the only one", x.undo(), 0);
        DUE.is("none can", x.undo(), NONE);
        DUE.is("none can, again", x.undo(), NONE);
        DUE.is("the day", x.count(3), 0);
        x.pass();
        Due.read(x, TWO);
        DUE.is("a new coast", x.undo(), NONE);
        x.pass();
        x.harden(0, 1);
        DUE.is("the latest", x.undo(), 1);
        DUE.is("hard", x.person(0, 2), 0);
        DUE.is("the day", x.count(3), 1);
    }

    private static void image() {
        DUE.by("An IMAGE (0, 1) is kept of the COAST: the DAY. BAD; NOT: no COAST.");
        RivalSorry x = new RivalSorry();
        int[] bad = {-1, 2, LEAST, GREATEST};
        for (int k : bad) {
            DUE.is("no coast, image(" + k + ")", x.image(k), BAD);
        }
        DUE.is("no coast, image(0)", x.image(0), NOT);
        DUE.is("no coast, image(1)", x.image(1), NOT);
        DUE.is("none was kept by that", x.restore(0), NOT);
        Due.read(x, "r2c000-,c000-;011;1");
        for (int k : bad) {
            DUE.is("image(" + k + ")", x.image(k), BAD);
        }
        DUE.is("image(0)", x.image(0), 1);
        x.pass();
        DUE.is("image(1)", x.image(1), 2);
        DUE.is("acts", x.count(7), 1);
    }

    private static void imageIsKept() {
        DUE.by("The COAST is as the IMAGE was");
        RivalSorry x = actedUpTo(6);
        String before = Due.coastOf(actedUpTo(6));
        x.image(1);
        x.carry(2, 2);
        x.sin(0, 1, 9);
        x.harden(0, 7);
        x.lend(0, 3);
        Due.read(x, TWO);
        DUE.is("the day of the image", x.restore(1), 3);
        DUE.same("as it was", Due.coastOf(x), before);
        x.pass();
        DUE.is("once more", x.restore(1), 3);
        DUE.same("as it was", Due.coastOf(x), before);
    }

    private static void restore() {
        DUE.by("(nothing can be undone then): the DAY. BAD; NOT: none was kept.");
        RivalSorry x = new RivalSorry();
        int[] bad = {-1, 2, LEAST, GREATEST};
        for (int k : bad) {
            DUE.is("restore(" + k + ")", x.restore(k), BAD);
        }
        DUE.is("none was kept", x.restore(0), NOT);
        DUE.is("none was kept", x.restore(1), NOT);
        Due.read(x, TWO);
        x.pass();
        x.image(1);
        DUE.is("none was kept in 0", x.restore(0), NOT);
        DUE.is("acts stay with what is refused", x.count(7), 1);
        for (int k : bad) {
            DUE.is("restore(" + k + ")", x.restore(k), BAD);
        }
        x.pass();
        DUE.is("kept in 1", x.restore(1), 1);
        DUE.is("acts", x.count(7), 0);
        DUE.is("nothing can be undone", x.undo(), NONE);
    }

    private static void restoreUndoesNothing() {
        DUE.by("(nothing can be undone then)");
        RivalSorry x = Due.on(TWO);
        passes(x, 30);
        x.image(0);
        passes(x, 3);
        DUE.is("the day", x.restore(0), 30);
        DUE.is("acts", x.count(7), 0);
        DUE.is("none can", x.undo(), NONE);
        passes(x, 2);
        DUE.is("acts from there on", x.undo(), 1);
        DUE.is("acts from there on", x.undo(), 0);
        DUE.is("none can", x.undo(), NONE);
        DUE.is("the day", x.count(3), 30);
    }
}
