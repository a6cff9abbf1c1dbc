/** The boundaries that the document names for the tape, people and wrongs (promises 1 to 6) and count (31), sentence by sentence. */
public final class TellingEdgesTest {
    private static final Due DUE = new Due("TellingEdgesTest");
    private static final int BAD = RivalSorry.BAD, NOT = RivalSorry.NOT, FULL = RivalSorry.FULL, NONE = RivalSorry.NONE;
    private static final String FIGURES = "0123456789";
    /** The least COAST: the places are r 0, COUNT 1, people 2 to 6 and 8 to 12, the wrong 14 to 16, the day 18. */
    private static final String LEAST = "r2c000-,c000-;011;0";
    private static final String GREATEST = "r6c9991,a9992,f9993,b9994,r9995,c9990;019,129,239,349,459,509,019,129;1";
    private static final String FIVE_KINDS = "r5c5021,a3470,f8290,b1150,r288-;014,105,025,121,433;1";

    public static void main(String[] args) {
        newObject();
        numbersFromZero();
        tapeIsFull();
        feed();
        nothingBehind();
        countOfPeople();
        asTheyCome();
        figuresOfPeople();
        houses();
        wants();
        letters();
        noBlanks();
        peopleTooFewOrMany();
        oneToEightWrongs();
        partsOfWrongs();
        dayOfTape();
        firstByteThatCannotStand();
        end();
        tapeIsEmptyThen();
        coastInPlaceOfTheOneBefore();
        allElseStays();
        kindsOverOneAnother();
        as();
        person();
        wrong();
        countEmpty();
        countFull();
        countCarried();
        countSets();
        countRefuses();
        DUE.end();
    }

    private static String with(String tape, int place, int sign) {
        return tape.substring(0, place) + (char) sign + tape.substring(place + 1);
    }

    private static void fault(String tape, int place) {
        DUE.is("coast of " + tape, Due.read(new RivalSorry(), tape), -100 - place);
    }

    private static void reads(String tape, int wrongs) {
        DUE.is("coast of " + tape, Due.read(new RivalSorry(), tape), wrongs);
    }

    /** Only these signs can stand at a place of this COAST, which is read with each of them. */
    private static void onlyThese(String tape, int place, String signs) {
        for (int sign = 0; sign <= 255; sign++) {
            if (signs.indexOf(sign) < 0) {
                fault(with(tape, place, sign), place);
            }
        }
        for (int i = 0; i < signs.length(); i++) {
            DUE.holds(signs.charAt(i) + " at " + place, Due.read(new RivalSorry(), with(tape, place, signs.charAt(i))) > 0);
        }
    }

    private static void newObject() {
        DUE.by("`RivalSorry()`: No COAST.");
        RivalSorry x = new RivalSorry();
        for (int what = 0; what <= 8; what++) {
            DUE.is("count(" + what + ")", x.count(what), 0);
        }
        int[] bad = {x.person(0, 0), x.as(0, 0), x.wrong(0, 0), x.carry(0, 0), x.lend(0, 1), x.sin(0, 1, 1), x.harden(0, 0),
            x.said(0, 0), x.comes(0, 0), x.least(0, 0), x.match(0), x.chain(0, 0), x.reach(0, 0), x.gusts(0, 0, 0, 0)};
        for (int i = 0; i < bad.length; i++) {
            DUE.is("there is no such thing, call " + i, bad[i], BAD);
        }
        int[] not = {x.pass(), x.image(0), x.image(1), x.restore(0), x.restore(1), x.match(-1), x.plan(0, -1), x.decades(0, 1, 0)};
        for (int i = 0; i < not.length; i++) {
            DUE.is("there is no COAST, call " + i, not[i], NOT);
        }
        DUE.is("undo()", x.undo(), NONE);
        DUE.is("the tape is empty", x.coast(), -100);
    }

    private static void numbersFromZero() {
        DUE.by("Numbers go from 0 on, unless told.");
        RivalSorry x = Due.on(GREATEST);
        for (int n = -1; n <= 9; n++) {
            DUE.holds("person " + n, (x.person(n, 1) >= 0) == (n >= 0 && n < 6));
            DUE.holds("wrong " + n, (x.wrong(n, 2) >= 0) == (n >= 0 && n < 8));
            DUE.holds("image " + n, (x.image(n) >= 0) == (n == 0 || n == 1));
            DUE.holds("sheet " + n, (x.sheet(n, 0, 1) >= 0) == (n >= 0 && n < 4));
            DUE.holds("lane " + n, (x.sheet(0, n, 1) >= 0) == (n >= 0 && n < 4));
        }
    }

    private static void tapeIsFull() {
        DUE.by("THE TAPE has at most 130 bytes");
        RivalSorry x = new RivalSorry();
        for (int turn = 0; turn < 2; turn++) {
            Due.feedAll(x, LEAST);
            for (int i = LEAST.length() + 1; i <= 130; i++) {
                DUE.is("byte " + i, x.feed('r'), i);
            }
            DUE.is("byte 131", x.feed('r'), FULL);
            DUE.is("byte 131 again", x.feed(0), FULL);
            DUE.is("bytes there are", x.count(8), 130);
            DUE.is("all 130 are read", x.coast(), -100 - LEAST.length());
        }
    }

    private static void feed() {
        DUE.by("A byte (0 .. 255) comes behind THE TAPE: how many it has. BAD; FULL.");
        RivalSorry x = new RivalSorry();
        DUE.is("feed(-1)", x.feed(-1), BAD);
        DUE.is("feed(256)", x.feed(256), BAD);
        DUE.is("feed(least)", x.feed(Integer.MIN_VALUE), BAD);
        DUE.is("feed(greatest)", x.feed(Integer.MAX_VALUE), BAD);
        DUE.is("none came", x.count(8), 0);
        DUE.is("feed(0)", x.feed(0), 1);
        DUE.is("feed(255)", x.feed(255), 2);
        DUE.is("a byte 256 more than r is none", x.feed(256 + 'r'), BAD);
        for (int i = 3; i <= 130; i++) {
            x.feed(i);
        }
        DUE.is("full", x.feed(255), FULL);
        DUE.is("full, and not as told", x.feed(256), BAD);
        DUE.is("full, and not as told", x.feed(-1), BAD);
    }

    private static void nothingBehind() {
        DUE.by("A COAST is r COUNT people ; wrongs ; DAY, nothing behind it");
        reads(LEAST, 1);
        reads(GREATEST, 8);
        for (int sign = 0; sign <= 255; sign++) {
            fault(LEAST + (char) sign, LEAST.length());
        }
        fault(LEAST + LEAST, LEAST.length());
        fault(GREATEST + "0", GREATEST.length());
        onlyThese(LEAST, 0, "r");
        onlyThese(LEAST, 7, ",");
        onlyThese(LEAST, 13, ";");
        onlyThese(GREATEST, GREATEST.length() - 2, ";");
    }

    private static void countOfPeople() {
        DUE.by("COUNT is a figure 2 to 6");
        for (int sign = 0; sign <= 255; sign++) {
            // A COUNT that can stand asks for more PEOPLE than there are: the ; is in place of a , then.
            fault("r" + (char) sign + "c000-,c000-;011;", "3456".indexOf(sign) >= 0 ? 13 : sign == '2' ? 18 : 1);
        }
        for (int people = 2; people <= 6; people++) {
            reads("r" + people + peopleOf(people) + ";011;0", 1);
        }
    }

    private static String peopleOf(int people) {
        StringBuilder all = new StringBuilder("c000-");
        for (int p = 1; p < people; p++) {
            all.append(",c000-");
        }
        return all.toString();
    }

    private static void asTheyCome() {
        DUE.by("so many PEOPLE (0, 1, .. as they come) with , between, each a letter");
        RivalSorry x = Due.on("r6c100-,a200-,f300-,b400-,r500-,c600-;011,102,203,304,405,506,017,128;0");
        int[] kinds = {1, 2, 3, 4, 5, 1};
        for (int p = 0; p < 6; p++) {
            DUE.is("kind of " + p, x.person(p, 0), kinds[p]);
            DUE.is("skill of " + p, x.person(p, 1), p + 1);
        }
        for (int w = 0; w < 8; w++) {
            DUE.is("weight of " + w, x.wrong(w, 2), w + 1);
        }
    }

    private static void houses() {
        DUE.by("HOUSES are at MILES 0 to 9 along the coast.");
        RivalSorry x = Due.on("r2c000-,c009-;011;0");
        DUE.is("the first mile", x.person(0, 3), 0);
        DUE.is("one is at home", x.person(0, 4), 0);
        DUE.is("the last mile", x.person(1, 3), 9);
        DUE.is("one is at home", x.person(1, 4), 9);
        fault("r2c00:-,c009-;011;0", 5);
        fault("r2c00/-,c009-;011;0", 5);
        fault("r2c0010-,c009-;011;0", 6);
    }

    private static void figuresOfPeople() {
        DUE.by("SKILL, HARD, HOUSE (a figure each, 0 to 9)");
        for (int what = 1; what <= 3; what++) {
            onlyThese(LEAST, 2 + what, FIGURES);
            onlyThese(LEAST, 8 + what, FIGURES);
            for (int figure = 0; figure <= 9; figure++) {
                RivalSorry x = Due.on(with(LEAST, 8 + what, '0' + figure));
                DUE.is("person(1, " + what + ")", x.person(1, what), figure);
                DUE.is("person(0, " + what + ")", x.person(0, what), 0);
            }
        }
    }

    private static void wants() {
        DUE.by("whom one WANTS to be, the figure of another one, or - (nobody)");
        onlyThese(LEAST, 6, "1-");
        onlyThese(LEAST, 12, "0-");
        String six = "r6" + peopleOf(6) + ";011;0";
        for (int p = 0; p < 6; p++) {
            onlyThese(six, 6 + 6 * p, "012345-".replace(String.valueOf(p), ""));
        }
        DUE.is("wants the last", Due.on(with(six, 6, '5')).person(0, 5), 5);
        DUE.is("wants the first", Due.on(with(six, 36, '0')).person(5, 5), 0);
        DUE.is("wants nobody", Due.on(six).person(5, 5), NONE);
    }

    private static void letters() {
        DUE.by("Letters: c CARRIER, a ADDER, f FLAT, b BROTHER, r RIDER.");
        onlyThese(LEAST, 2, "cafbr");
        onlyThese(LEAST, 8, "cafbr");
        for (int kind = 1; kind <= 5; kind++) {
            DUE.is("kind " + kind, Due.on(with(LEAST, 8, " cafbr".charAt(kind))).person(1, 0), kind);
        }
    }

    private static void noBlanks() {
        DUE.by("No blanks.");
        for (int place = 0; place <= GREATEST.length(); place++) {
            fault(GREATEST.substring(0, place) + " " + GREATEST.substring(place), place);
        }
        fault(" ", 0);
        fault(LEAST + "\n", LEAST.length());
    }

    private static void peopleTooFewOrMany() {
        DUE.by("too few, too many PEOPLE: what stands in place of the sign that is due");
        for (int count = 2; count <= 6; count++) {
            for (int people = 1; people <= 8; people++) {
                String tape = "r" + count + peopleOf(people) + ";011;0";
                if (people == count) {
                    reads(tape, 1);
                } else {
                    fault(tape, 1 + 6 * Math.min(people, count));
                }
            }
        }
        fault("r2;011;0", 2);
        fault("r2,c000-;011;0", 2);
    }

    private static String wrongsOf(int wrongs) {
        StringBuilder all = new StringBuilder("r2c000-,c000-;011");
        for (int w = 1; w < wrongs; w++) {
            all.append(",101");
        }
        return all.toString();
    }

    private static void oneToEightWrongs() {
        DUE.by("1 to 8 WRONGS (as they come) with , between");
        fault("r2c000-,c000-;;0", 14);
        fault("r2c000-,c000-;,011;0", 14);
        for (int wrongs = 1; wrongs <= 8; wrongs++) {
            reads(wrongsOf(wrongs) + ";0", wrongs);
            fault(wrongsOf(wrongs) + ",;0", wrongsOf(wrongs).length() + (wrongs < 8 ? 1 : 0));
        }
        DUE.by("a WRONG too many: the , ahead");
        int ahead = wrongsOf(8).length();
        fault(wrongsOf(9) + ";0", ahead);
        fault(wrongsOf(10) + ";0", ahead);
        fault(wrongsOf(8) + ",", ahead);
        fault(wrongsOf(8) + ",x", ahead);
        fault(wrongsOf(8) + ".", ahead);
    }

    private static void partsOfWrongs() {
        DUE.by("each three figures: who did it, to whom (another one), WEIGHT (1 to 9)");
        String six = "r6" + peopleOf(6) + ";";
        for (int sign = 0; sign <= 255; sign++) {
            if ("01234".indexOf(sign) >= 0) {
                reads(six + (char) sign + "51;0", 1);
            } else {
                fault(six + (char) sign + "51;0", six.length() + (sign == '5' ? 1 : 0));
            }
        }
        fault("r2c000-,c000-;111;0", 15);
        fault("r2c000-,c000-;211;0", 14);
        for (int who = 0; who < 6; who++) {
            String others = "012345".replace(String.valueOf(who), "");
            onlyThese(six + who + others.charAt(0) + "1;0", six.length() + 1, others);
        }
        onlyThese(LEAST, 16, "123456789");
        for (int weight = 1; weight <= 9; weight++) {
            DUE.is("weight", Due.on(with(LEAST, 16, '0' + weight)).wrong(0, 2), weight);
        }
        fault("r2c000-,c000-;0111;0", 17);
        fault("r2c000-,c000-;01;0", 16);
    }

    private static void dayOfTape() {
        DUE.by("DAY is 0 or 1");
        onlyThese(LEAST, 18, "01");
        DUE.is("day 0", Due.on(LEAST).count(3), 0);
        DUE.is("day 1", Due.on(with(LEAST, 18, '1')).count(3), 1);
        fault(LEAST + "1", 19);
    }

    private static void firstByteThatCannotStand() {
        DUE.by("A FAULT is the place of the first byte that cannot stand there");
        for (int place = 0; place < GREATEST.length(); place++) {
            String spoilt = with(GREATEST, place, 'x');
            fault(spoilt, place);
            fault(spoilt + "x", place);
            fault(spoilt.substring(0, place + 1), place);
            fault(spoilt.substring(0, place + 1) + "x".repeat(129 - place), place);
        }
    }

    private static void end() {
        DUE.by("the end: how many bytes there are");
        for (int length = 0; length < GREATEST.length(); length++) {
            fault(GREATEST.substring(0, length), length);
        }
        for (int length = 0; length < LEAST.length(); length++) {
            fault(LEAST.substring(0, length), length);
        }
    }

    private static void tapeIsEmptyThen() {
        DUE.by("THE TAPE, empty then, is a COAST: how many WRONGS.");
        RivalSorry x = new RivalSorry();
        DUE.is("one wrong", Due.read(x, LEAST), 1);
        DUE.is("bytes", x.count(8), 0);
        DUE.is("an empty tape is no coast", x.coast(), -100);
        DUE.is("eight wrongs", Due.read(x, GREATEST), 8);
        DUE.is("a fault", Due.read(x, LEAST.substring(0, 18)), -118);
        DUE.is("bytes behind a fault", x.count(8), 0);
        DUE.is("what was there does not go on", Due.read(x, "0"), -100);
        DUE.is("the first byte", x.feed('r'), 1);
    }

    private static void coastInPlaceOfTheOneBefore() {
        DUE.by("A COAST that is read stands in place of the one before (none at first): each is AT the own HOUSE, "
            + "CARRIED 0, WON by nobody, all WRONGS open; nothing can be undone; all else stays.");
        String tape = "r4c000-,c9020,f0030,c004-;031,039,019;0";
        RivalSorry x = Due.on(tape);
        String first = Due.wholeOf(Due.on(tape));
        DUE.is("wins", x.carry(0, 1), 2);
        DUE.is("fails", x.carry(1, 2), 0);
        x.sin(3, 0, 2);
        x.harden(3, 9);
        x.lend(3, 0);
        x.image(1);
        x.sheet(2, 1, 7);
        DUE.is("acts", x.count(7), 5);
        x.decades(60, 1, 0);
        DUE.is("the same tape", Due.read(x, tape), 3);
        DUE.same("all as at first", Due.wholeOf(x), first);
        DUE.is("nothing can be undone", x.undo(), NONE);
        DUE.is("a lesser one", Due.read(x, LEAST), 1);
        DUE.is("no third person", x.person(2, 0), BAD);
        DUE.is("no second wrong", x.wrong(1, 0), BAD);
        DUE.is("the sheet stays", x.drop(2), 7);
        DUE.is("the image stays", x.restore(1), 2);
        DUE.is("as it was", x.count(1), 4);
    }

    private static void allElseStays() {
        DUE.by("-100 less the place of a FAULT (all else stays)");
        String tape = "r4c000-,c9020,f0030,c004-;031,039,019;0";
        RivalSorry x = Due.on(tape);
        x.carry(0, 1);
        x.harden(3, 9);
        x.sheet(3, 0, 5);
        x.image(0);
        String before = Due.wholeOf(x);
        DUE.is("fault in the people", Due.read(x, "r3c111-,a111-,"), -114);
        DUE.is("fault in the wrongs", Due.read(x, "r2c111-,a111-;019,018,0"), -123);
        DUE.is("fault in the day", Due.read(x, "r2c111-,a111-;019;2"), -118);
        DUE.is("fault behind it", Due.read(x, LEAST + LEAST), -119);
        DUE.is("no tape", x.coast(), -100);
        DUE.same("all stays", Due.wholeOf(x), before);
        DUE.is("acts can be undone", x.undo(), 1);
        DUE.is("the sheet stays", x.drop(3), 5);
        DUE.is("the image stays", x.restore(0), 1);
    }

    private static void kindsOverOneAnother() {
        DUE.by("KINDS are over one another: PERSON (0); CARRIER (1) and BROTHER (4) under it; ADDER (2) is CARRIER; "
            + "FLAT (3) is CARRIER; RIDER (5) is ADDER.");
        String[] kindsOf = {"01", "012", "013", "04", "0125"};
        RivalSorry x = Due.on(FIVE_KINDS);
        for (int p = 0; p < 5; p++) {
            for (int kind = 0; kind <= 5; kind++) {
                boolean is = kindsOf[p].indexOf('0' + kind) >= 0;
                DUE.is("as(" + p + ", " + kind + ")", x.as(p, kind), is ? p : RivalSorry.CAST);
            }
        }
    }

    private static void as() {
        DUE.by("A PERSON taken as a KIND (0 .. 5): the number. BAD; CAST: one is none such.");
        RivalSorry x = Due.on(FIVE_KINDS);
        DUE.is("the first", x.as(0, 0), 0);
        DUE.is("the last, as the last kind", x.as(4, 5), 4);
        DUE.is("none such", x.as(0, 5), RivalSorry.CAST);
        DUE.is("kind -1", x.as(4, -1), BAD);
        DUE.is("kind 6", x.as(4, 6), BAD);
        DUE.is("person -1", x.as(-1, 0), BAD);
        DUE.is("person 5 of 5", x.as(5, 0), BAD);
        DUE.is("far", x.as(Integer.MIN_VALUE, Integer.MAX_VALUE), BAD);
    }

    private static void person() {
        DUE.by("Of a PERSON: 0 the KIND, as told (1 .. 5), 1 SKILL, 2 HARD, 3 HOUSE, 4 where one is AT, "
            + "5 whom one WANTS to be (NONE), 6 CARRIED, 7 by whom WON (NONE). BAD.");
        RivalSorry x = Due.on("r6c000-,r9872,f0000,b0990,a1235,c009-;051,013;0");
        int[][] due = {{1, 0, 0, 0, 0, NONE, 0, NONE}, {5, 9, 8, 7, 7, 2, 0, NONE}, {3, 0, 0, 0, 0, 0, 0, NONE},
            {4, 0, 9, 9, 9, 0, 0, NONE}, {2, 1, 2, 3, 3, 5, 0, NONE}, {1, 0, 0, 9, 9, NONE, 0, NONE}};
        for (int p = 0; p < 6; p++) {
            for (int what = 0; what <= 7; what++) {
                DUE.is("person(" + p + ", " + what + ")", x.person(p, what), due[p][what]);
            }
            DUE.is("what -1", x.person(p, -1), BAD);
            DUE.is("what 8", x.person(p, 8), BAD);
        }
        DUE.is("person -1", x.person(-1, 7), BAD);
        DUE.is("person 6 of 6", x.person(6, 0), BAD);
        DUE.is("far", x.person(Integer.MAX_VALUE, 0), BAD);
        DUE.is("far", x.person(0, Integer.MIN_VALUE), BAD);
    }

    private static void wrong() {
        DUE.by("Of a WRONG: 0 who did it, 1 to whom, 2 WEIGHT, 3 who had it FORGIVEN (NONE: it is open), 4 NEED. BAD.");
        RivalSorry x = Due.on("r3c000-,c9010,c093-;029,025,109;0");
        DUE.is("fails", x.carry(0, 1), 0);
        DUE.is("forgiven", x.carry(1, 1), 1);
        int[][] due = {{0, 2, 9, NONE, 13}, {0, 2, 5, 1, 9}, {1, 0, 9, NONE, 9}};
        for (int w = 0; w < 3; w++) {
            for (int what = 0; what <= 4; what++) {
                DUE.is("wrong(" + w + ", " + what + ")", x.wrong(w, what), due[w][what]);
            }
            DUE.is("what -1", x.wrong(w, -1), BAD);
            DUE.is("what 5", x.wrong(w, 5), BAD);
        }
        DUE.is("wrong -1", x.wrong(-1, 0), BAD);
        DUE.is("wrong 3 of 3", x.wrong(3, 0), BAD);
        DUE.is("a fourth", x.sin(2, 1, 1), 3);
        DUE.is("wrong 3 of 4", x.wrong(3, 0), 2);
        DUE.is("undone", x.undo(), 2);
        DUE.is("wrong 3 of 3 again", x.wrong(3, 0), BAD);
        DUE.is("far", x.wrong(Integer.MIN_VALUE, 0), BAD);
        DUE.is("far", x.wrong(0, Integer.MAX_VALUE), BAD);
    }

    private static void countEmpty() {
        DUE.by("8 bytes of THE TAPE (but 8: 0 without a COAST)");
        RivalSorry x = new RivalSorry();
        Due.feedAll(x, "r2c");
        for (int what = 0; what <= 7; what++) {
            DUE.is("count(" + what + ") without a coast", x.count(what), 0);
        }
        DUE.is("bytes without a coast", x.count(8), 3);
        DUE.is("a fault", x.coast(), -103);
        DUE.is("bytes then", x.count(8), 0);
        Due.read(x, LEAST);
        Due.feedAll(x, "r");
        DUE.is("bytes with a coast", x.count(8), 1);
    }

    private static void countFull() {
        DUE.by("4 CARRIED by all together, 5 who are WON, as a set, 6 WEIGHT of open ones together, "
            + "7 how many ACTS can be undone");
        RivalSorry x = Due.on("r6c000-,c9010,c9020,c003-,c003-,c904-;019,029,039,049,059,039,049,059;0");
        int[] first = {6, 8, 255, 0, 0, 0, 72, 0, 0};
        for (int what = 0; what <= 8; what++) {
            DUE.is("count(" + what + ") at first", x.count(what), first[what]);
        }
        int[] wrongs = {2, 3, 4, 5, 6, 7};
        for (int i = 0; i < wrongs.length; i++) {
            DUE.is("forgiven", x.carry(wrongs[i], 1 + i % 2), 1);
        }
        DUE.is("forgiven", x.carry(0, 2), 1);
        DUE.is("forgiven", x.carry(1, 1), 1);
        int[] last = {6, 8, 0, 8, 8, 0, 0, 8, 0};
        for (int what = 0; what <= 8; what++) {
            DUE.is("count(" + what + ") at last", x.count(what), last[what]);
        }
    }

    private static void countCarried() {
        DUE.by("4 CARRIED by all together");
        RivalSorry x = Due.on("r6c9001,c000-,c002-,c003-,c004-,c9011;129,139,149;0");
        DUE.is("by the first", x.carry(0, 0), 1);
        DUE.is("carried", x.count(4), 1);
        DUE.is("by the last", x.carry(1, 5), 1);
        DUE.is("carried", x.count(4), 2);
        DUE.is("by the last again", x.carry(2, 5), 1);
        DUE.is("carried", x.count(4), 3);
        DUE.is("undone", x.undo(), 2);
        DUE.is("carried", x.count(4), 2);
    }

    private static void countSets() {
        DUE.by("Sets are bits.");
        RivalSorry x = Due.on("r6c000-,c9010,c9020,c9030,c9040,c905-;051,011,059,059,059,059,059,059;0");
        DUE.is("wins the last", x.carry(0, 1), 2);
        DUE.is("won", x.count(5), 1 << 5);
        DUE.is("wins", x.carry(1, 2), 2);
        DUE.is("won", x.count(5), 1 << 5 | 1 << 1);
        DUE.is("open", x.count(2), 255 - 3);
        RivalSorry eight = Due.on("r3c000-,c9010,c003-;029,029,029,029,029,029,029,029;0");
        for (int w = 0; w < 7; w++) {
            DUE.is("forgiven", eight.carry(w, 1), 1);
        }
        DUE.is("the last is open", eight.count(2), 1 << 7);
        RivalSorry first = Due.on("r3c003-,c9012,c002-;201;0");
        DUE.is("wins the first", first.carry(0, 1), 2);
        DUE.is("won", first.count(5), 1);
    }

    private static void countRefuses() {
        DUE.by("`int count(int what)`: 0 PEOPLE, 1 WRONGS, 2 open ones, as a set, 3 the DAY");
        RivalSorry x = Due.on(LEAST);
        DUE.is("count(0)", x.count(0), 2);
        DUE.is("count(8)", x.count(8), 0);
        DUE.is("count(-1)", x.count(-1), BAD);
        DUE.is("count(9)", x.count(9), BAD);
        DUE.is("count(least)", x.count(Integer.MIN_VALUE), BAD);
        DUE.is("count(greatest)", x.count(Integer.MAX_VALUE), BAD);
        DUE.is("count(9) without a coast", new RivalSorry().count(9), BAD);
    }
}
