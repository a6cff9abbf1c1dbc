/** The boundaries that the document names for what is foretold (promises 15 to 23), sentence by sentence. */
public final class ForetoldEdgesTest {
    private static final Due DUE = new Due("ForetoldEdgesTest");
    private static final int BAD = RivalSorry.BAD, NOT = RivalSorry.NOT, NONE = RivalSorry.NONE;
    private static final int LEAST = Integer.MIN_VALUE, GREATEST = Integer.MAX_VALUE;
    /** Rivals of 0 are 1 (skilled) and 2 (a brother); 3 is done wrong. */
    private static final String FOUR = "r4c000-,c9010,b5020,r003-;035,039,012;0";

    public static void main(String[] args) {
        nothingChanges();
        said();
        saidWhetherOneMay();
        comes();
        comesRefuses();
        leastByKind();
        leastOfOthers();
        leastRefuses();
        matchOpen();
        matchAnother();
        matchMayNow();
        matchFewestWon();
        matchMostForgiven();
        matchFirst();
        matchNotForgiven();
        matchRefuses();
        chainRound();
        chainEnds();
        chainRefuses();
        reach();
        reachFromWhereOneIsAt();
        reachRefuses();
        planDays();
        planStep();
        planFirst();
        planNothing();
        planMayThen();
        planMore();
        planRefuses();
        gusts();
        gustsRefuse();
        decadesNone();
        decadesDraws();
        decadesDayPasses();
        decadesRefuse();
        DUE.end();
    }

    private static void nothingChanges() {
        DUE.by("3 FORETOLD from now (nothing changes).");
        String before = Due.wholeOf(acted());
        for (int call = 0; call < 9; call++) {
            RivalSorry x = acted();
            int got = call == 0 ? x.said(1, 2) : call == 1 ? x.comes(1, 2) : call == 2 ? x.least(1, 2) : call == 3 ? x.match(-1)
                : call == 4 ? x.chain(2, 0) : call == 5 ? x.reach(2, 9) : call == 6 ? x.plan(3, 2)
                : call == 7 ? x.gusts(1, 2, 5, 1) : x.decades(60, 77, 0);
            DUE.holds("foretold by call " + call, got >= 0 || got == NONE);
            DUE.same("behind call " + call, Due.wholeOf(x), before);
            DUE.is("undo behind call " + call, x.undo(), 1);
        }
    }

    private static RivalSorry acted() {
        RivalSorry x = Due.on(FOUR);
        DUE.is("forgiven", x.carry(0, 1), 2);
        DUE.is("fails", x.carry(1, 2), 0);
        return x;
    }

    // ---- what is said, what comes, what skill it takes

    private static void said() {
        DUE.by("What would be SAID of a WRONG by a PERSON now (whether one MAY or not). BAD.");
        RivalSorry x = Due.on("r6c100-,a2010,f7030,b7040,r7090,c900-;051,011,401;1");
        DUE.is("the first by the first", x.said(0, 0), 1);
        DUE.is("the last by the last", x.said(2, 5), 9);
        int[][] bad = {{-1, 0}, {3, 0}, {0, -1}, {0, 6}, {LEAST, 0}, {GREATEST, 0}, {0, LEAST}, {0, GREATEST}};
        for (int[] call : bad) {
            DUE.is("said(" + call[0] + ", " + call[1] + ")", x.said(call[0], call[1]), BAD);
        }
    }

    private static void saidWhetherOneMay() {
        DUE.by("(whether one MAY or not)");
        RivalSorry x = Due.on("r5c600-,c9010,c704-,c8051,r400-;029,021;1");
        DUE.is("by who did it", x.said(0, 0), 6);
        DUE.is("by whom it was done to", x.said(0, 2), 7);
        DUE.is("by who wants another one, over the sands on an odd day", x.said(0, 3), 8);
        DUE.is("by who wants nobody", x.said(0, 4), 8);
        DUE.is("forgiven", x.carry(0, 1), 1);
        DUE.is("of one that is forgiven", x.said(0, 1), 9);
    }

    private static void comes() {
        DUE.by("COMES: what would come of a WRONG CARRIED by one now: 0 not, 1 FORGIVEN, 2 WON, too.");
        int[] due = {0, 0, 0, 0, 1, 1, 1, 1, 2, 2};
        for (int skill = 0; skill <= 9; skill++) {
            RivalSorry x = Due.on("r4c000-,c" + skill + "010,c012-,c9030;024,021;0");
            DUE.is("comes by " + skill + " for 4", x.comes(0, 1), due[skill]);
            DUE.is("wins", x.carry(1, 3), 2);
            DUE.is("comes by " + skill + " for 4, won before", x.comes(0, 1), Math.min(1, due[skill]));
        }
    }

    private static void comesRefuses() {
        DUE.by("COMES. BAD; NOT: this one MAY not.");
        RivalSorry x = Due.on("r4c000-,c9010,c900-,c9051;011,021,031;1");
        int[][] bad = {{-1, 1}, {3, 1}, {1, -1}, {1, 4}, {LEAST, 1}, {GREATEST, 1}, {1, LEAST}, {1, GREATEST}};
        int[][] not = {{0, 1}, {1, 0}, {1, 2}, {1, 3}, {2, 1}};
        for (int[] call : bad) {
            DUE.is("comes(" + call[0] + ", " + call[1] + ")", x.comes(call[0], call[1]), BAD);
        }
        for (int[] call : not) {
            DUE.is("comes(" + call[0] + ", " + call[1] + ")", x.comes(call[0], call[1]), NOT);
        }
        DUE.is("comes(1, 1)", x.comes(1, 1), 2);
    }

    private static int leastFor(int need, String kind, int house) {
        int weight = Math.min(9, need);
        return Due.on("r3c000-," + kind + "5000,c0" + 2 * (need - weight) + house + "-;02" + weight + ";0").least(0, 1);
    }

    private static void leastByKind() {
        DUE.by("LEAST: the least SKILL (0 to 9) by which one would have it FORGIVEN now; none.");
        int[] carrier = {1, 2, 3, 4, 5, 6, 7, 8, 9, NONE, NONE, NONE, NONE};
        int[] adder = {0, 0, 1, 2, 3, 4, 5, 6, 7, 8, 9, NONE, NONE};
        int[] flat = {2, 4, 6, 8, NONE, NONE, NONE, NONE, NONE, NONE, NONE, NONE, NONE};
        int[] brother = {0, 0, NONE, NONE, NONE, NONE, NONE, NONE, NONE, NONE, NONE, NONE, NONE};
        int[] rider = {0, 0, 0, 0, 0, 0, 1, 2, 3, 4, 5, 6, 7};
        for (int need = 1; need <= 13; need++) {
            DUE.is("carrier for " + need, leastFor(need, "c", 0), carrier[need - 1]);
            DUE.is("adder for " + need, leastFor(need, "a", 0), adder[need - 1]);
            DUE.is("flat for " + need, leastFor(need, "f", 0), flat[need - 1]);
            DUE.is("brother for " + need, leastFor(need, "b", 0), brother[need - 1]);
            DUE.is("rider at hand for " + need, leastFor(need, "r", 1), adder[need - 1]);
            DUE.is("rider by 9 miles for " + need, leastFor(need, "r", 9), rider[need - 1]);
        }
    }

    private static void leastOfOthers() {
        DUE.by("by which one would have it FORGIVEN now");
        RivalSorry x = Due.on("r3c000-,b0000,c000-;024,024;0");
        DUE.is("a brother at first", x.least(0, 1), NONE);
        x.carry(0, 1);
        DUE.is("who carried one", x.least(0, 1), NONE);
        x.carry(0, 1);
        DUE.is("who carried two", x.least(0, 1), 0);
        x.harden(2, 2);
        DUE.is("for who is harder", x.least(0, 1), NONE);
    }

    private static void leastRefuses() {
        DUE.by("LEAST; NONE. BAD; NOT: this one MAY not.");
        RivalSorry x = Due.on("r4c000-,b9010,c900-,b9051;011,029,039;1");
        int[][] bad = {{-1, 1}, {3, 1}, {1, -1}, {1, 4}, {LEAST, 1}, {GREATEST, 1}, {1, LEAST}, {1, GREATEST}};
        int[][] not = {{0, 1}, {1, 0}, {1, 2}, {1, 3}, {2, 1}};
        for (int[] call : bad) {
            DUE.is("least(" + call[0] + ", " + call[1] + ")", x.least(call[0], call[1]), BAD);
        }
        for (int[] call : not) {
            DUE.is("least(" + call[0] + ", " + call[1] + ")", x.least(call[0], call[1]), NOT);
        }
        DUE.is("none", x.least(1, 1), NONE);
    }

    // ---- match

    /** How many are FORGIVEN, then who carries each WRONG. */
    private static void matches(RivalSorry x, int... due) {
        for (int w = -1; w < due.length - 1; w++) {
            DUE.is("match(" + w + ")", x.match(w), due[w + 1]);
        }
    }

    private static void matchOpen() {
        DUE.by("MATCH: each open WRONG");
        RivalSorry x = Due.on("r4c000-,c9010,c9020,c003-;039,039,039;0");
        matches(x, 2, 1, 2, NONE);
        DUE.is("forgiven", x.carry(1, 1), 1);
        matches(x, 2, 1, NONE, 2);
        DUE.is("forgiven", x.carry(0, 1), 1);
        matches(x, 1, NONE, NONE, 1);
        DUE.is("forgiven", x.carry(2, 1), 1);
        matches(x, 0, NONE, NONE, NONE);
    }

    private static void matchAnother() {
        DUE.by("by another one who MAY carry it now, or by nobody");
        matches(Due.on("r3c000-,c9010,c003-;029,029,029,029,029,029,029,029;0"), 1, 1, NONE, NONE, NONE, NONE, NONE, NONE, NONE);
        // Each of five by another one, none by whom it was done to.
        matches(Due.on("r6c000-,c9010,c9010,c9010,c9010,c9010;019,029,039,049,059;0"), 5, 2, 1, 4, 5, 3);
        // All six carry; two wrongs are left.
        matches(Due.on("r6c9001,c9000,c9000,c9000,c9000,c9000;029,039,049,059,019,129,139,149;0"), 6, 1, 2, 3, 4, 5, 0, NONE, NONE);
    }

    private static void matchMayNow() {
        DUE.by("who MAY carry it now, or by nobody, each as if now");
        String tape = "r4c000-,c9040,c9040,c005-;039,039;";
        matches(Due.on(tape + "0"), 2, 1, 2);
        matches(Due.on(tape + "1"), 0, NONE, NONE);
        matches(Due.on("r3c000-,c9010,c001-;019,219;0"), 0, NONE, NONE);
        // A brother would say enough tomorrow.
        matches(Due.on("r3c000-,b0010,c001-;023,023;0"), 0, NONE, NONE);
        RivalSorry lent = Due.on("r3c000-,c901-,c001-;029;0");
        matches(lent, 0, NONE);
        lent.lend(1, 0);
        matches(lent, 1, 1);
    }

    private static void matchFewestWon() {
        DUE.by("that most are FORGIVEN, of these that fewest are WON");
        // By need and 4 one is won, by need and 3 nobody is.
        matches(Due.on("r4c000-,c9010,c8020,c003-;035;0"), 1, 2);
        matches(Due.on("r4c000-,c9010,c8020,c003-;036;0"), 1, 1);
        matches(Due.on("r4c000-,c9010,c8020,c003-;034;0"), 1, 1);
        // Half of hard belongs to need.
        matches(Due.on("r4c000-,c9010,c8020,c013-;035;0"), 1, 2);
        matches(Due.on("r4c000-,c9010,c8020,c023-;035;0"), 1, 1);
        // A later wrong wins nobody, so the earlier one has nobody.
        matches(Due.on("r3c000-,c9010,c003-;025,026;0"), 1, NONE, 1);
        matches(Due.on("r4c000-,c5000,c5000,c000-;031,035,032;0"), 2, NONE, 1, 2);
        RivalSorry x = Due.on("r5c000-,c9010,c8020,c003-,c9000;035,031;0");
        DUE.is("wins", x.carry(1, 4), 2);
        matches(x, 1, 1, NONE);
    }

    private static void matchMostForgiven() {
        DUE.by("that most are FORGIVEN");
        // Two forgiven and two won are more than one forgiven and nobody won.
        matches(Due.on("r5c000-,c9010,c9010,c001-,c001-;031,041,039;0"), 2, 1, NONE, 2);
        matches(Due.on("r5c000-,c9010,c9010,c001-,c001-;031,041;0"), 2, 1, 2);
        // The lesser one gives way to who can do no other.
        matches(Due.on("r4c000-,c9010,c5010,c001-;035,039;0"), 2, 2, 1);
        matches(Due.on("r4c000-,c9010,c4010,c001-;035,039;0"), 1, NONE, 1);
        // The last two of eight.
        matches(Due.on("r4c000-,c9010,c8010,c001-;309,309,309,309,309,309,038,039;0"), 2, NONE, NONE, NONE, NONE, NONE, NONE, 2, 1);
    }

    private static void matchFirst() {
        DUE.by("of several the first (WRONG by WRONG the lesser PERSON, nobody last");
        matches(Due.on("r5c000-,c5010,c5020,c5030,c004-;045,045;0"), 2, 1, 2);
        matches(Due.on("r4c003-,c5030,c5020,c001-;035,015,025;0"), 2, 1, 2, NONE);
        matches(Due.on("r3c9001,c000-,c9001;129,109;0"), 2, 0, 2);
        matches(Due.on("r4c9001,c000-,c9001,c003-;139;0"), 1, 0);
        // Nobody for the first wrong is behind somebody for it.
        matches(Due.on("r3c000-,c5010,c003-;025,025;0"), 1, 1, NONE);
    }

    private static void matchNotForgiven() {
        DUE.by("by whom it would not be FORGIVEN, carries none");
        matches(Due.on("r3c000-,c4010,c003-;025;0"), 0, NONE);
        matches(Due.on("r3c000-,c5010,c003-;025;0"), 1, 1);
        matches(Due.on("r4c000-,c4010,c5010,c003-;035;0"), 1, 2);
        matches(Due.on("r3c000-,c5010,c013-;025;0"), 1, 1);
        matches(Due.on("r3c000-,c5010,c023-;025;0"), 0, NONE);
    }

    private static void matchRefuses() {
        DUE.by("MATCH: how many are FORGIVEN (wrong -1), who carries a WRONG; NONE: nobody. BAD; NOT: no COAST.");
        RivalSorry none = new RivalSorry();
        DUE.is("no coast, match(-1)", none.match(-1), NOT);
        DUE.is("no coast, match(0)", none.match(0), BAD);
        DUE.is("no coast, match(-2)", none.match(-2), BAD);
        RivalSorry x = Due.on("r3c000-,c9010,c003-;029,029,029,029,029,029,029;0");
        int[] bad = {-2, 7, LEAST, GREATEST};
        for (int w : bad) {
            DUE.is("match(" + w + ") of 7", x.match(w), BAD);
        }
        DUE.is("match(6) of 7", x.match(6), NONE);
        x.sin(0, 2, 9);
        DUE.is("match(7) of 8", x.match(7), NONE);
        DUE.is("match(8) of 8", x.match(8), BAD);
        DUE.is("match(0)", x.match(0), 1);
        DUE.is("match(-1)", x.match(-1), 1);
    }

    // ---- chain, reach

    private static void chains(RivalSorry x, int person, int ahead, int round) {
        DUE.is("ahead of those that come round, from " + person, x.chain(person, 0), ahead);
        DUE.is("come round, from " + person, x.chain(person, 1), round);
    }

    private static void chainRound() {
        DUE.by("CHAIN of one: one WANTS to be another one, who WANTS to be another one ..");
        RivalSorry two = Due.on("r2c0001,c0000;015;0");
        chains(two, 0, 0, 2);
        chains(two, 1, 0, 2);
        DUE.by("how many come ahead of those that come round");
        RivalSorry all = Due.on("r6c0005,c0000,c0001,c0002,c0003,c0004;015;0");
        for (int p = 0; p < 6; p++) {
            chains(all, p, 0, 6);
        }
        RivalSorry tail = Due.on("r6c0001,c0002,c0003,c0004,c0005,c0004;015;0");
        int[] ahead = {4, 3, 2, 1, 0, 0};
        for (int p = 0; p < 6; p++) {
            chains(tail, p, ahead[p], 2);
        }
        tail.lend(5, 0);
        chains(tail, 3, 0, 6);
        tail.lend(5, 3);
        chains(tail, 0, 3, 3);
        chains(tail, 3, 0, 3);
    }

    private static void chainEnds() {
        DUE.by("(0; if it ends: how many there are, the first one, too), how many come round (1; 0: it ends)");
        RivalSorry x = Due.on("r6c0001,c0002,c0003,c0004,c0005,c000-;015;0");
        for (int p = 0; p < 6; p++) {
            chains(x, p, 6 - p, 0);
        }
        chains(Due.on("r2c000-,c000-;015;0"), 0, 1, 0);
        RivalSorry won = Due.on("r3c0001,c9010,c003-;025,021;0");
        chains(won, 0, 0, 2);
        DUE.is("wins, and wants nobody", won.carry(1, 1), 2);
        chains(won, 0, 2, 0);
        chains(won, 1, 1, 0);
    }

    private static void chainRefuses() {
        DUE.by("`int chain(int person, int what)`: CHAIN. BAD.");
        RivalSorry x = Due.on("r2c0001,c0000;015;0");
        int[][] bad = {{-1, 0}, {2, 0}, {0, -1}, {0, 2}, {LEAST, 0}, {GREATEST, 0}, {0, LEAST}, {0, GREATEST}};
        for (int[] call : bad) {
            DUE.is("chain(" + call[0] + ", " + call[1] + ")", x.chain(call[0], call[1]), BAD);
        }
    }

    private static void reach() {
        DUE.by("REACH: the fewest DAYS in which one who goes 3 MILES a DAY at most, or stays, comes from where one is AT to a MILE, "
            + "THE SANDS passed on no odd DAY.");
        int[][] even = {{0, 1, 1, 1, 2, 3, 3, 3, 4, 4}, {1, 0, 1, 1, 1, 3, 3, 3, 4, 4}, {1, 1, 0, 1, 1, 1, 2, 2, 2, 3},
            {1, 1, 1, 0, 1, 1, 1, 2, 2, 2}, {2, 1, 1, 1, 0, 1, 1, 1, 2, 2}};
        int[][] odd = {{0, 1, 1, 1, 2, 2, 2, 3, 3, 3}, {1, 0, 1, 1, 1, 2, 2, 2, 3, 3}, {1, 1, 0, 1, 1, 2, 2, 2, 3, 3},
            {1, 1, 1, 0, 1, 2, 2, 2, 3, 3}, {2, 1, 1, 1, 0, 2, 2, 2, 3, 3}};
        for (int from = 0; from <= 4; from++) {
            RivalSorry x = Due.on("r2c00" + from + "-,c00" + (9 - from) + "-;015;0");
            for (int day = 0; day < 4; day++) {
                for (int mile = 0; mile <= 9; mile++) {
                    int due = (day % 2 == 0 ? even : odd)[from][mile];
                    DUE.is("from " + from + " to " + mile + " on day " + day, x.reach(0, mile), due);
                    DUE.is("from " + (9 - from) + " to " + (9 - mile) + " on day " + day, x.reach(1, 9 - mile), due);
                }
                x.pass();
            }
        }
    }

    private static void reachFromWhereOneIsAt() {
        DUE.by("comes from where one is AT to a MILE");
        RivalSorry x = Due.on("r3c000-,c0010,c009-;029;0");
        DUE.is("from the own house", x.reach(1, 9), 4);
        x.carry(0, 1);
        DUE.is("one is there", x.reach(1, 9), 0);
        DUE.is("back to the own house", x.reach(1, 1), 3);
    }

    private static void reachRefuses() {
        DUE.by("REACH to a MILE (0 .. 9). BAD.");
        RivalSorry x = Due.on("r2c000-,c009-;015;0");
        int[][] bad = {{-1, 0}, {2, 0}, {0, -1}, {0, 10}, {LEAST, 0}, {GREATEST, 0}, {0, LEAST}, {0, GREATEST}, {0, 32}};
        for (int[] call : bad) {
            DUE.is("reach(" + call[0] + ", " + call[1] + ")", x.reach(call[0], call[1]), BAD);
        }
        DUE.is("mile 0", x.reach(0, 0), 0);
        DUE.is("mile 9", x.reach(1, 9), 0);
    }

    // ---- plan

    /** How many are FORGIVEN more, then what is done on each DAY. */
    private static void plans(RivalSorry x, int... due) {
        int n = due.length - 1;
        for (int k = -1; k < n; k++) {
            DUE.is("plan(" + n + ", " + k + ")", x.plan(n, k), due[k + 1]);
        }
    }

    private static void planDays() {
        DUE.by("PLAN for n (0 to 3) DAYS: on each a WRONG is CARRIED by one who MAY then, or nothing is done");
        RivalSorry x = Due.on("r3c000-,c9010,c002-;029,029,029,029;0");
        plans(x, 0);
        plans(x, 1, 1);
        plans(x, 2, 1, 11);
        plans(x, 3, 1, 11, 21);
        DUE.is("n -1", x.plan(-1, -1), BAD);
        DUE.is("n 4", x.plan(4, -1), BAD);
    }

    private static void planStep() {
        DUE.by("how many are FORGIVEN more (k -1), what is done on the k-th (0 on; NONE: k is n or more)");
        RivalSorry x = Due.on("r3c000-,c9010,c002-;029,029,029,029;0");
        for (int n = 0; n <= 3; n++) {
            for (int k = 0; k < n; k++) {
                DUE.is("plan(" + n + ", " + k + ")", x.plan(n, k), 10 * k + 1);
            }
            DUE.is("k is n, " + n, x.plan(n, n), NONE);
            DUE.is("k is n and 1, " + n, x.plan(n, n + 1), NONE);
            DUE.is("k is far, " + n, x.plan(n, GREATEST), NONE);
            DUE.is("k is -1, " + n, x.plan(n, -1), n);
            DUE.is("k is -2, " + n, x.plan(n, -2), BAD);
        }
    }

    private static void planFirst() {
        DUE.by("of several the first, DAY by DAY by 10 times the WRONG and the PERSON");
        plans(Due.on("r3c9001,c000-,c000-;129;0"), 1, 0);
        plans(Due.on("r6c000-,c001-,c002-,c003-,c004-,c9041;239,239,239,239,239,239,239,129;0"), 1, 75);
        plans(Due.on("r6c000-,c001-,c002-,c003-,c004-,c9041;239,239,239,239,239,129,129,139;0"), 3, 55, 65, 75);
        plans(Due.on("r6c000-,c001-,c002-,c003-,c9041,c9041;239,239,239,239,149,159,239,239;0"), 2, 45, 54);
        plans(Due.on("r6c000-,c001-,c002-,c003-,c004-,c5041;239,239,239,239,125,239,239,239;0"), 1, 45);
        plans(Due.on("r3c5001,c000-,c000-;215,129;0"), 0, 10);
        plans(Due.on("r4c000-,c9010,c9020,c003-;039,039;0"), 1, 1);
        plans(Due.on("r4c000-,c8010,c9020,c003-;039,039;0"), 1, 2);
        // A carry in vain comes first where there is a day for it.
        plans(Due.on("r3c000-,c5010,c003-;028,025;0"), 1, 11);
        plans(Due.on("r3c000-,c5010,c003-;028,025;0"), 1, 1, 11);
        plans(Due.on("r3c000-,c5010,c003-;028,025;0"), 1, 1, 1, 11);
        plans(Due.on("r3c000-,c5010,c003-;025,028;0"), 1, 1, 11);
    }

    private static void planNothing() {
        DUE.by("nothing is 99");
        plans(Due.on("r3c000-,c501-,c003-;028;0"), 0, 99, 99, 99);
        plans(Due.on("r3c000-,c5010,c003-;025;0"), 1, 1, 99, 99);
        // A carry in vain stands ahead of nothing.
        plans(Due.on("r3c000-,c5010,c003-;028;0"), 0, 1, 1, 1);
    }

    private static void planMayThen() {
        DUE.by("by one who MAY then");
        // By the tide.
        plans(Due.on("r3c000-,c5010,c008-;025;1"), 0, 99);
        plans(Due.on("r3c000-,c5010,c008-;025;1"), 1, 99, 1);
        plans(Due.on("r4c000-,c5040,c005-,c004-;025,035;0"), 2, 1, 99, 11);
        // A brother would say enough, had he gone over the sands on the odd day.
        plans(Due.on("r3c000-,b0040,c005-;023;1"), 0, 99, 1);
        // Who won wants nobody, so the wrong that wins is the last.
        plans(Due.on("r3c000-,c9010,c003-;021,029;0"), 2, 11, 1);
        // A brother says more each time.
        plans(Due.on("r3c000-,b0010,c003-;024;0"), 0, 1, 1);
        plans(Due.on("r3c000-,b0010,c003-;024;0"), 1, 1, 1, 1);
        // What stings is too weighty for the other one.
        plans(Due.on("r4c000-,f0010,c5020,c003-;035;0"), 1, 2, 99);
    }

    private static void planMore() {
        DUE.by("that most are FORGIVEN behind them");
        RivalSorry x = Due.on("r3c000-,c9010,c002-;029,029,029;0");
        x.carry(1, 1);
        plans(x, 2, 1, 21, 99);
        x.carry(0, 1);
        plans(x, 1, 21, 99, 99);
        x.carry(2, 1);
        plans(x, 0, 99, 99, 99);
    }

    private static void planRefuses() {
        DUE.by("BAD: k below -1, too; NOT: no COAST.");
        RivalSorry none = new RivalSorry();
        RivalSorry x = Due.on("r3c000-,c9010,c002-;029;0");
        int[][] bad = {{-1, -1}, {4, -1}, {0, -2}, {3, -2}, {4, -2}, {-1, 0}, {4, 0}, {LEAST, 0}, {GREATEST, 0}, {0, LEAST}, {4, 9}};
        for (int[] call : bad) {
            DUE.is("plan(" + call[0] + ", " + call[1] + ")", x.plan(call[0], call[1]), BAD);
            DUE.is("no coast, plan(" + call[0] + ", " + call[1] + ")", none.plan(call[0], call[1]), BAD);
        }
        DUE.is("no coast, plan(0, -1)", none.plan(0, -1), NOT);
        DUE.is("no coast, plan(3, -1)", none.plan(3, -1), NOT);
        DUE.is("no coast, plan(3, 2)", none.plan(3, 2), NOT);
    }

    // ---- gusts, decades

    private static void gust(int q, int spare, int above, int below) {
        RivalSorry x = Due.on("r3c000-,c5010,c003-;02" + (5 - spare) + ";0");
        DUE.is("above, q " + q + ", spare " + spare, x.gusts(0, 1, q, 0), above);
        DUE.is("below, q " + q + ", spare " + spare, x.gusts(0, 1, q, 1), below);
    }

    private static void gusts() {
        DUE.by("GUSTS: three, by q (0 to 10) of ten each, by itself, take 1 off what is SAID: that a WRONG CARRIED by one now is FORGIVEN");
        for (int spare = -4; spare <= 4; spare++) {
            gust(0, spare, spare < 0 ? 0 : 1, 1);
            gust(10, spare, spare < 3 ? 0 : 1, 1);
        }
        DUE.by("Parts are told in lowest terms: above (what 0), below (1).");
        int[] qs = {1, 2, 3, 4, 5, 6, 7, 8, 9};
        int[][] noGust = {{729, 1000}, {64, 125}, {343, 1000}, {27, 125}, {1, 8}, {8, 125}, {27, 1000}, {1, 125}, {1, 1000}};
        int[][] oneGust = {{243, 250}, {112, 125}, {98, 125}, {81, 125}, {1, 2}, {44, 125}, {27, 125}, {13, 125}, {7, 250}};
        int[][] twoGusts = {{999, 1000}, {124, 125}, {973, 1000}, {117, 125}, {7, 8}, {98, 125}, {657, 1000}, {61, 125}, {271, 1000}};
        for (int i = 0; i < qs.length; i++) {
            gust(qs[i], -1, 0, 1);
            gust(qs[i], 0, noGust[i][0], noGust[i][1]);
            gust(qs[i], 1, oneGust[i][0], oneGust[i][1]);
            gust(qs[i], 2, twoGusts[i][0], twoGusts[i][1]);
            gust(qs[i], 3, 1, 1);
            gust(qs[i], 4, 1, 1);
        }
    }

    private static void gustsRefuse() {
        DUE.by("GUSTS: above (what 0), below (1). BAD; NOT: this one MAY not.");
        RivalSorry x = Due.on("r3c000-,c5010,c003-;025,015;0");
        int[][] bad = {{0, 1, -1, 0}, {0, 1, 11, 0}, {0, 1, 5, -1}, {0, 1, 5, 2}, {-1, 1, 5, 0}, {2, 1, 5, 0}, {0, -1, 5, 0}, {0, 3, 5, 0},
            {1, 1, 11, 0}, {1, 1, 5, 2}, {1, 1, -1, 0}, {LEAST, 1, 5, 0}, {0, GREATEST, 5, 0}, {0, 1, GREATEST, 0}, {0, 1, 5, LEAST}};
        for (int[] c : bad) {
            DUE.is("gusts(" + c[0] + ", " + c[1] + ", " + c[2] + ", " + c[3] + ")", x.gusts(c[0], c[1], c[2], c[3]), BAD);
        }
        DUE.by("(he must be one who MAY)");
        DUE.is("to oneself", x.gusts(1, 1, 5, 0), NOT);
        DUE.is("to oneself, below", x.gusts(1, 1, 5, 1), NOT);
        DUE.is("to oneself, no gust", x.gusts(1, 1, 0, 0), NOT);
        DUE.is("wants nobody", x.gusts(0, 2, 5, 1), NOT);
        DUE.is("no coast", new RivalSorry().gusts(0, 0, 5, 0), BAD);
        DUE.is("forgiven", x.carry(0, 1), 1);
        DUE.is("not open", x.gusts(0, 1, 5, 0), NOT);
        RivalSorry odd = Due.on("r3c000-,c5040,c005-;025;1");
        DUE.is("over the sands on an odd day", odd.gusts(0, 1, 5, 0), NOT);
        odd.pass();
        DUE.is("over the sands on an even day", odd.gusts(0, 1, 5, 1), 8);
    }

    private static void decadesNone() {
        DUE.by("FORGIVEN ones at last; PEOPLE who are WON, as a set");
        RivalSorry x = Due.on("r4c000-,c9010,c9020,c003-;031,019;0");
        DUE.is("no draw, none forgiven", x.decades(0, 1, 0), 0);
        DUE.is("no draw, none won", x.decades(0, 1, 1), 0);
        DUE.is("wins", x.carry(0, 1), 2);
        DUE.is("no draw, one forgiven", x.decades(0, 1, 0), 1);
        DUE.is("no draw, one won", x.decades(0, 1, 1), 1 << 3);
        DUE.is("forgiven", x.carry(1, 2), 1);
        for (int n = 0; n <= 60; n += 20) {
            DUE.is("all are forgiven", x.decades(n, 999999, 0), 2);
            DUE.is("who are won", x.decades(n, 999999, 1), 1 << 3);
        }
    }

    /** Of 8 wrongs and 6 people this one MAY carry this one, and nobody else any. */
    private static String onlyPair(int wrong, int person, int house, int day) {
        int idol = (person + 1) % 6;
        int other = (person + 2) % 6;
        int victim = (person + 3) % 6;
        StringBuilder tape = new StringBuilder("r6");
        for (int p = 0; p < 6; p++) {
            tape.append(p > 0 ? "," : "").append("c90").append(p == victim ? house : 4).append(p == person ? String.valueOf(idol) : "-");
        }
        for (int w = 0; w < 8; w++) {
            tape.append(w > 0 ? "," : ";").append(w == wrong ? idol : other).append(victim).append(w == wrong ? 5 : 9);
        }
        return tape.append(";").append(day).toString();
    }

    private static void decadesDraws() {
        DUE.by("DECADES by a SEED (X at first), n times: each time X becomes the rest of 16807 times X by 2147483647; "
            + "the WRONG that X leaves by how many there are is CARRIED by the PERSON that X by 16 (cut) leaves by how many there are, who MAY");
        int[] seeds = {1, 2, 7, 999998, 999999};
        // WRONG and PERSON of four draws each: X by seed 1 is 16807, 282475249, 1622650073, 984943658.
        int[][] drawn = {{7, 0, 1, 3, 1, 5, 2, 4}, {6, 0, 2, 0, 3, 3, 4, 3}, {1, 3, 7, 3, 4, 5, 1, 2}, {1, 1, 7, 0, 1, 4, 5, 2},
            {0, 2, 0, 4, 3, 1, 7, 0}};
        for (int cell = 0; cell < 48; cell++) {
            int w = cell / 6;
            int p = cell % 6;
            RivalSorry x = Due.on(onlyPair(w, p, 4, 0));
            for (int s = 0; s < seeds.length; s++) {
                int due = 0;
                for (int n = 0; n <= 4; n++) {
                    due |= n > 0 && drawn[s][2 * n - 2] == w && drawn[s][2 * n - 1] == p ? 1 : 0;
                    String how = w + " by " + p + " in " + n + " draws by seed " + seeds[s];
                    DUE.is(how, x.decades(n, seeds[s], 0), due);
                    DUE.is(how + ", won", x.decades(n, seeds[s], 1), due << (p + 3) % 6);
                }
            }
        }
    }

    private static void decadesDayPasses() {
        DUE.by("who MAY; else a DAY passes");
        // By seed 1 the draws are 7 by 0, 1 by 3, 1 by 5, 2 by 4: each over the sands, on an even day alone.
        int[][] draws = {{7, 0}, {1, 3}, {1, 5}, {2, 4}};
        for (int draw = 0; draw < 4; draw++) {
            for (int day = 0; day < 2; day++) {
                RivalSorry x = Due.on(onlyPair(draws[draw][0], draws[draw][1], 5, day));
                DUE.is("one draw fewer", x.decades(draw, 1, 0), 0);
                DUE.is("draw " + draw + " from day " + day, x.decades(draw + 1, 1, 0), (day + draw) % 2 == 0 ? 1 : 0);
            }
        }
    }

    private static void decadesRefuse() {
        DUE.by("DECADES (n 0 .. 60; a SEED 1 .. 999999): FORGIVEN ones (what 0), who are WON (1). BAD; NOT: no COAST.");
        RivalSorry none = new RivalSorry();
        RivalSorry x = Due.on("r3c000-,c9010,c003-;029;0");
        int[][] bad = {{-1, 1, 0}, {61, 1, 0}, {0, 0, 0}, {0, 1000000, 0}, {0, 1, -1}, {0, 1, 2}, {LEAST, 1, 0}, {GREATEST, 1, 0},
            {0, LEAST, 0}, {0, GREATEST, 0}, {0, 1, LEAST}, {0, 1, GREATEST}, {0, -1, 0}};
        for (int[] c : bad) {
            DUE.is("decades(" + c[0] + ", " + c[1] + ", " + c[2] + ")", x.decades(c[0], c[1], c[2]), BAD);
            DUE.is("no coast, decades(" + c[0] + ", " + c[1] + ", " + c[2] + ")", none.decades(c[0], c[1], c[2]), BAD);
        }
        DUE.is("no coast", none.decades(0, 1, 0), NOT);
        DUE.is("no coast", none.decades(60, 999999, 1), NOT);
        DUE.is("n 0, seed 1", x.decades(0, 1, 0), 0);
        DUE.is("n 60, seed 999999", x.decades(60, 999999, 1), 0);
        DUE.is("n 60 is enough for one of three", x.decades(60, 999999, 0), 1);
    }
}
