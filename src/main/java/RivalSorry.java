import java.util.Arrays;

/** Apologies that rivals carry along a proud coast; ../shared/DOC.md tells what each call promises. */
public final class RivalSorry {
    public static final int BAD = -1, NOT = -2, FULL = -3, NONE = -4, NULL = -11, CAST = -12, INDEX = -13, SIZE = -14;

    private static final int CARRIER = 1, ADDER = 2, FLAT = 3, BROTHER = 4, RIDER = 5;
    /** The KIND that stands over each KIND; PERSON (0) has none. */
    private static final int[] KIND_OVER = {-1, 0, CARRIER, CARRIER, 0, ADDER};

    /** What is held of a PERSON, numbered as person() tells it. */
    private static final int KIND = 0, SKILL = 1, HARD = 2, HOUSE = 3, AT = 4, WANTS = 5, CARRIED = 6, WON = 7;
    private static final int TRAITS = 8;

    /** What is held of a WRONG, numbered as wrong() tells it; NEED is reckoned, not held. */
    private static final int WHO = 0, WHOM = 1, WEIGHT = 2, FORGIVEN = 3, NEED = 4;
    private static final int PARTS = 4;

    private static final int MOST_PEOPLE = 6, MOST_WRONGS = 8, MOST_WEIGHT = 9, MOST_FIGURE = 9;
    private static final int LAST_DAY = 9999, MOST_BYTES = 130, MOST_ACTS = 24;
    private static final int LAST_MILE = 9, LAST_MILE_BEFORE_SANDS = 4, MILES_A_DAY = 3;
    private static final int PLAN_DAYS = 3, NOTHING_DONE = 99, MOST_DRAWS = 60, MOST_SEED = 999999;
    private static final int LANES = 4, MOST_ITEMS = 24, MOST_PAIRS = 10;
    private static final int NO_REFUSAL = 0;

    private final Tape tape = new Tape();
    private final Coast coast = new Coast();
    private final Coast scratch = new Coast();
    private final Past past = new Past();
    private final Coast[] images = {new Coast(), new Coast()};
    private final Sheet[] sheets = {new Sheet(), new Sheet(), new Sheet(), new Sheet()};
    private final Matching matching = new Matching();
    private final Planner planner = new Planner();
    private final Guess guess = new Guess();

    public RivalSorry() {
    }

    // ---- 1 what is told

    public int feed(int letter) {
        if (letter < 0 || letter > 255) {
            return BAD;
        }
        return tape.add(letter) ? tape.length() : FULL;
    }

    public int coast() {
        int fault = tape.readInto(scratch);
        tape.clear();
        if (fault != Tape.NO_FAULT) {
            return -100 - fault;
        }
        coast.copyFrom(scratch);
        past.forget();
        return coast.wrongs();
    }

    public int person(int person, int what) {
        if (!coast.hasPerson(person) || what < 0 || what >= TRAITS) {
            return BAD;
        }
        return coast.trait(person, what);
    }

    public int as(int person, int kind) {
        if (!coast.hasPerson(person) || kind < 0 || kind >= KIND_OVER.length) {
            return BAD;
        }
        return isUnder(coast.trait(person, KIND), kind) ? person : CAST;
    }

    public int wrong(int wrong, int what) {
        if (!coast.hasWrong(wrong) || what < 0 || what > NEED) {
            return BAD;
        }
        return what == NEED ? coast.need(wrong) : coast.part(wrong, what);
    }

    // ---- 2 acts

    public int carry(int wrong, int person) {
        int refusal = refuseCarrying(wrong, person);
        if (refusal != NO_REFUSAL) {
            return refusal;
        }
        if (coast.day() >= LAST_DAY) {
            return FULL;
        }
        past.keep(coast);
        return coast.deliver(wrong, person);
    }

    public int lend(int person, int other) {
        if (!coast.hasPerson(person) || !coast.hasPerson(other) || person == other) {
            return BAD;
        }
        return change(person, WANTS, other);
    }

    public int sin(int who, int whom, int weight) {
        if (!coast.hasPerson(who) || !coast.hasPerson(whom) || who == whom || weight < 1 || weight > MOST_WEIGHT) {
            return BAD;
        }
        if (coast.wrongs() >= MOST_WRONGS) {
            return FULL;
        }
        past.keep(coast);
        coast.addWrong(who, whom, weight);
        return coast.wrongs() - 1;
    }

    public int harden(int person, int hard) {
        if (!coast.hasPerson(person) || hard < 0 || hard > MOST_FIGURE) {
            return BAD;
        }
        return change(person, HARD, hard);
    }

    public int pass() {
        if (!coast.stands()) {
            return NOT;
        }
        if (coast.day() >= LAST_DAY) {
            return FULL;
        }
        past.keep(coast);
        coast.nextDay();
        return coast.day();
    }

    public int undo() {
        return past.takeBack(coast) ? past.acts() : NONE;
    }

    public int image(int k) {
        Coast kept = imageAt(k);
        if (kept == null) {
            return BAD;
        }
        if (!coast.stands()) {
            return NOT;
        }
        kept.copyFrom(coast);
        return coast.day();
    }

    public int restore(int k) {
        Coast kept = imageAt(k);
        if (kept == null) {
            return BAD;
        }
        if (!kept.stands()) {
            return NOT;
        }
        coast.copyFrom(kept);
        past.forget();
        return coast.day();
    }

    // ---- 3 foretold

    public int said(int wrong, int person) {
        if (!coast.hasWrong(wrong) || !coast.hasPerson(person)) {
            return BAD;
        }
        return coast.saying(wrong, person);
    }

    public int comes(int wrong, int person) {
        int refusal = refuseCarrying(wrong, person);
        return refusal != NO_REFUSAL ? refusal : coast.outcome(wrong, person);
    }

    public int least(int wrong, int person) {
        int refusal = refuseCarrying(wrong, person);
        return refusal != NO_REFUSAL ? refusal : coast.leastSkill(wrong, person);
    }

    public int match(int wrong) {
        if (wrong != -1 && !coast.hasWrong(wrong)) {
            return BAD;
        }
        if (!coast.stands()) {
            return NOT;
        }
        matching.settle(coast);
        return wrong == -1 ? matching.forgiven() : matching.carrierOf(wrong);
    }

    public int chain(int person, int what) {
        if (!coast.hasPerson(person) || what < 0 || what > 1) {
            return BAD;
        }
        return what == 0 ? coast.chainAhead(person) : coast.chainRound(person);
    }

    public int reach(int person, int mile) {
        if (!coast.hasPerson(person) || mile < 0 || mile > LAST_MILE) {
            return BAD;
        }
        return daysToReach(coast.trait(person, AT), mile, coast.day());
    }

    public int plan(int n, int k) {
        if (n < 0 || n > PLAN_DAYS || k < -1) {
            return BAD;
        }
        if (!coast.stands()) {
            return NOT;
        }
        if (k >= n) {
            return NONE;
        }
        int forgiven = planner.bestFrom(coast, 0, n);
        return k == -1 ? forgiven : planner.step(k);
    }

    public int gusts(int wrong, int person, int q, int what) {
        if (q < 0 || q > 10 || what < 0 || what > 1) {
            return BAD;
        }
        int refusal = refuseCarrying(wrong, person);
        if (refusal != NO_REFUSAL) {
            return refusal;
        }
        int spare = coast.saying(wrong, person) - coast.need(wrong);
        int above = waysOfGusts(q, spare);
        int divisor = commonDivisor(1000, above);
        return (what == 0 ? above : 1000) / divisor;
    }

    public int decades(int n, int seed, int what) {
        if (n < 0 || n > MOST_DRAWS || seed < 1 || seed > MOST_SEED || what < 0 || what > 1) {
            return BAD;
        }
        if (!coast.stands()) {
            return NOT;
        }
        scratch.copyFrom(coast);
        drawDays(scratch, n, seed);
        return what == 0 ? scratch.forgiven() : scratch.wonSet();
    }

    // ---- 4 sheets

    public int sheet(int sheet, int lane, int n) {
        Sheet row = sheetAt(sheet);
        if (row == null || !isLane(lane) || n > MOST_ITEMS) {
            return BAD;
        }
        if (n < 0) {
            return SIZE;
        }
        row.lay(lane, n);
        return n;
    }

    public int drop(int sheet) {
        Sheet row = sheetAt(sheet);
        if (row == null) {
            return BAD;
        }
        return row.isNothing() ? NULL : row.clear();
    }

    public long item(int sheet, int lane, int i, long v) {
        Sheet row = sheetAt(sheet);
        int refusal = refuseRow(row, lane);
        if (refusal != NO_REFUSAL || row == null) {
            return refusal;
        }
        if (!row.holds(i, 1)) {
            return INDEX;
        }
        row.put(i, v);
        return row.get(i);
    }

    public int copy(int from, int i, int to, int j, int n) {
        Sheet source = sheetAt(from);
        Sheet target = sheetAt(to);
        if (source == null || target == null) {
            return BAD;
        }
        if (source.isNothing() || target.isNothing()) {
            return NULL;
        }
        if (source.lane() != target.lane()) {
            return CAST;
        }
        if (!source.holds(i, n) || !target.holds(j, n)) {
            return INDEX;
        }
        target.take(source, i, j, n);
        return n;
    }

    public int log(int person, int sheet, int lane, int i) {
        if (!coast.hasPerson(person)) {
            return BAD;
        }
        Sheet row = sheetAt(sheet);
        int refusal = refuseRow(row, lane);
        if (refusal != NO_REFUSAL || row == null) {
            return refusal;
        }
        if (!row.holds(i, coast.wrongs())) {
            return INDEX;
        }
        for (int w = 0; w < coast.wrongs(); w++) {
            row.put(i + w, coast.saying(w, person));
        }
        return coast.wrongs();
    }

    public int skills(int person, int sheet, int lane, int i, int n, int what) {
        int refusal = refusePairs(person, sheet, lane, i, n, what);
        if (refusal != NO_REFUSAL) {
            return refusal;
        }
        guess.amongSkills(coast, person);
        return guess.answer(sheetAt(sheet), i, n, what);
    }

    public int kinds(int person, int sheet, int lane, int i, int n, int what) {
        int refusal = refusePairs(person, sheet, lane, i, n, what);
        if (refusal != NO_REFUSAL) {
            return refusal;
        }
        guess.amongKinds(coast, person);
        return guess.answer(sheetAt(sheet), i, n, what);
    }

    public int count(int what) {
        switch (what) {
            case 0:
                return coast.people();
            case 1:
                return coast.wrongs();
            case 2:
                return coast.openSet();
            case 3:
                return coast.day();
            case 4:
                return coast.carriedByAll();
            case 5:
                return coast.wonSet();
            case 6:
                return coast.openWeight();
            case 7:
                return past.acts();
            case 8:
                return tape.length();
            default:
                return BAD;
        }
    }

    // ---- what the calls share

    private int refuseCarrying(int wrong, int person) {
        if (!coast.hasWrong(wrong) || !coast.hasPerson(person)) {
            return BAD;
        }
        return coast.mayCarry(wrong, person) ? NO_REFUSAL : NOT;
    }

    /** An ACT that changes one trait: what it was. */
    private int change(int person, int trait, int value) {
        int before = coast.trait(person, trait);
        if (before == value) {
            return NOT;
        }
        past.keep(coast);
        coast.setTrait(person, trait, value);
        return before;
    }

    private Coast imageAt(int k) {
        return k < 0 || k >= images.length ? null : images[k];
    }

    private Sheet sheetAt(int sheet) {
        return sheet < 0 || sheet >= sheets.length ? null : sheets[sheet];
    }

    private static boolean isLane(int lane) {
        return lane >= 0 && lane < LANES;
    }

    private static int refuseRow(Sheet row, int lane) {
        if (row == null || !isLane(lane)) {
            return BAD;
        }
        if (row.isNothing()) {
            return NULL;
        }
        return row.lane() == lane ? NO_REFUSAL : CAST;
    }

    private int refusePairs(int person, int sheet, int lane, int i, int n, int what) {
        if (!coast.hasPerson(person) || n < 1 || n > MOST_PAIRS || what < 0 || what > 1) {
            return BAD;
        }
        Sheet row = sheetAt(sheet);
        int refusal = refuseRow(row, lane);
        if (refusal != NO_REFUSAL || row == null) {
            return refusal;
        }
        if (!row.holds(i, 2 * n)) {
            return INDEX;
        }
        for (int pair = 0; pair < n; pair++) {
            long miles = row.get(i + 2 * pair);
            if (miles < 0 || miles > LAST_MILE) {
                return NOT;
            }
        }
        return NO_REFUSAL;
    }

    // ---- rules that need no COAST

    private static boolean isUnder(int kind, int over) {
        int at = kind;
        for (int step = 0; step < KIND_OVER.length && at >= 0 && at < KIND_OVER.length; step++) {
            if (at == over) {
                return true;
            }
            at = KIND_OVER[at];
        }
        return false;
    }

    private static int sayingOf(int kind, int skill, int carried, int miles) {
        switch (kind) {
            case CARRIER:
                return skill;
            case ADDER:
                return skill + 2;
            case FLAT:
                return skill / 2;
            case BROTHER:
                return carried + 2;
            case RIDER:
                return skill + 2 + miles / 2;
            default:
                return 0;
        }
    }

    private static int stingOf(int kind) {
        switch (kind) {
            case CARRIER:
            case ADDER:
                return 1;
            case FLAT:
                return 2;
            default:
                return 0;
        }
    }

    /** Whether the way is one that nobody goes on this DAY. */
    private static boolean isBarred(int from, int to, int day) {
        boolean overSands = (from <= LAST_MILE_BEFORE_SANDS) != (to <= LAST_MILE_BEFORE_SANDS);
        return overSands && day % 2 != 0;
    }

    private static int daysToReach(int from, int to, int today) {
        int reached = 1 << from;
        // On every second DAY a way of 3 MILES is free, so twice the coast's length is more than enough.
        for (int days = 0; days < 2 * LAST_MILE; days++) {
            if ((reached >> to & 1) != 0) {
                return days;
            }
            reached = reachedNext(reached, today + days);
        }
        return NONE;
    }

    /** The MILES, as a set, where one may be a DAY after one was at one of these. */
    private static int reachedNext(int reached, int day) {
        int next = 0;
        for (int from = 0; from <= LAST_MILE; from++) {
            if ((reached >> from & 1) == 0) {
                continue;
            }
            int last = Math.min(LAST_MILE, from + MILES_A_DAY);
            for (int to = Math.max(0, from - MILES_A_DAY); to <= last; to++) {
                if (!isBarred(from, to, day)) {
                    next |= 1 << to;
                }
            }
        }
        return next;
    }

    /** Of 1000 ways in which three gusts come or not, those in which at most so many as are spare come. */
    private static int waysOfGusts(int q, int spare) {
        int calm = 10 - q;
        int ways = 0;
        if (spare >= 0) {
            ways += calm * calm * calm;
        }
        if (spare >= 1) {
            ways += 3 * q * calm * calm;
        }
        if (spare >= 2) {
            ways += 3 * q * q * calm;
        }
        if (spare >= 3) {
            ways += q * q * q;
        }
        return ways;
    }

    /** The greatest number that divides both; at least 1, so that it may be a divisor. */
    private static int commonDivisor(int a, int b) {
        int greater = a;
        int lesser = b;
        for (int step = 0; step < 64 && lesser != 0; step++) {
            int rest = greater % lesser;
            greater = lesser;
            lesser = rest;
        }
        return Math.max(1, greater);
    }

    private static void drawDays(Coast on, int n, int seed) {
        int people = on.people();
        int wrongs = on.wrongs();
        if (people < 1 || wrongs < 1) {
            return;
        }
        long x = seed;
        for (int draw = 0; draw < n; draw++) {
            x = 16807L * x % 2147483647L;
            int wrong = (int) (x % wrongs);
            int person = (int) (x / 16 % people);
            if (on.mayCarry(wrong, person)) {
                on.deliver(wrong, person);
            } else {
                on.nextDay();
            }
        }
    }

    // ---- classes inside

    /** THE TAPE, and the reading of a COAST from it. */
    private static final class Tape {
        static final int NO_FAULT = -1;
        private static final int NO_FIGURE = -1;

        private final int[] bytes = new int[MOST_BYTES];
        private int length;
        private int place;

        int length() {
            return length;
        }

        boolean add(int letter) {
            if (length < 0 || length >= bytes.length) {
                return false;
            }
            bytes[length] = letter;
            length++;
            return true;
        }

        void clear() {
            length = 0;
        }

        /** NO_FAULT, or the place of the FAULT; the COAST is whole only without one. */
        int readInto(Coast read) {
            place = 0;
            read.clear();
            boolean whole = takeSign('r') && takePeople(read) && takeSign(';') && takeWrongs(read)
                && takeSign(';') && takeDay(read) && place == length;
            return whole ? NO_FAULT : place;
        }

        private int peek() {
            return place >= 0 && place < length && place < bytes.length ? bytes[place] : NO_FIGURE;
        }

        private boolean takeSign(int sign) {
            if (peek() != sign) {
                return false;
            }
            place++;
            return true;
        }

        private int takeFigure(int first, int last) {
            int figure = peek() - '0';
            if (figure < first || figure > last) {
                return NO_FIGURE;
            }
            place++;
            return figure;
        }

        private int takeOther(int self, int people) {
            return peek() - '0' == self ? NO_FIGURE : takeFigure(0, people - 1);
        }

        private boolean takePeople(Coast read) {
            int people = takeFigure(2, MOST_PEOPLE);
            if (people == NO_FIGURE) {
                return false;
            }
            for (int p = 0; p < people; p++) {
                if ((p > 0 && !takeSign(',')) || !takePerson(read, p, people)) {
                    return false;
                }
            }
            return true;
        }

        private boolean takePerson(Coast read, int self, int people) {
            int kind = takeKind();
            if (kind == NO_FIGURE) {
                return false;
            }
            int skill = takeFigure(0, MOST_FIGURE);
            if (skill == NO_FIGURE) {
                return false;
            }
            int hard = takeFigure(0, MOST_FIGURE);
            if (hard == NO_FIGURE) {
                return false;
            }
            int house = takeFigure(0, LAST_MILE);
            if (house == NO_FIGURE) {
                return false;
            }
            int wants = takeSign('-') ? NONE : takeOther(self, people);
            if (wants == NO_FIGURE) {
                return false;
            }
            read.addPerson(kind, skill, hard, house, wants);
            return true;
        }

        private int takeKind() {
            int kind = kindOf(peek());
            if (kind != NO_FIGURE) {
                place++;
            }
            return kind;
        }

        private static int kindOf(int letter) {
            switch (letter) {
                case 'c':
                    return CARRIER;
                case 'a':
                    return ADDER;
                case 'f':
                    return FLAT;
                case 'b':
                    return BROTHER;
                case 'r':
                    return RIDER;
                default:
                    return NO_FIGURE;
            }
        }

        private boolean takeWrongs(Coast read) {
            boolean whole = takeWrong(read);
            for (int w = 1; whole && w < MOST_WRONGS && takeSign(','); w++) {
                whole = takeWrong(read);
            }
            return whole;
        }

        private boolean takeWrong(Coast read) {
            int who = takeFigure(0, read.people() - 1);
            if (who == NO_FIGURE) {
                return false;
            }
            int whom = takeOther(who, read.people());
            if (whom == NO_FIGURE) {
                return false;
            }
            int weight = takeFigure(1, MOST_WEIGHT);
            if (weight == NO_FIGURE) {
                return false;
            }
            read.addWrong(who, whom, weight);
            return true;
        }

        private boolean takeDay(Coast read) {
            int day = takeFigure(0, 1);
            if (day == NO_FIGURE) {
                return false;
            }
            read.setDay(day);
            return true;
        }
    }

    /** PEOPLE, WRONGS and the DAY, and the rules by which a WRONG is CARRIED. */
    private static final class Coast {
        private final int[] traits = new int[MOST_PEOPLE * TRAITS];
        private final int[] parts = new int[MOST_WRONGS * PARTS];
        private int people;
        private int wrongs;
        private int day;

        void clear() {
            people = 0;
            wrongs = 0;
            day = 0;
        }

        void copyFrom(Coast other) {
            System.arraycopy(other.traits, 0, traits, 0, traits.length);
            System.arraycopy(other.parts, 0, parts, 0, parts.length);
            people = other.people;
            wrongs = other.wrongs;
            day = other.day;
        }

        boolean stands() {
            return people > 0;
        }

        int people() {
            return people;
        }

        int wrongs() {
            return wrongs;
        }

        int day() {
            return day;
        }

        void setDay(int first) {
            day = first;
        }

        void nextDay() {
            day++;
        }

        boolean hasPerson(int p) {
            return p >= 0 && p < people;
        }

        boolean hasWrong(int w) {
            return w >= 0 && w < wrongs;
        }

        int trait(int p, int trait) {
            int cell = p * TRAITS + trait;
            return cell < 0 || cell >= traits.length ? NONE : traits[cell];
        }

        void setTrait(int p, int trait, int value) {
            int cell = p * TRAITS + trait;
            if (cell >= 0 && cell < traits.length) {
                traits[cell] = value;
            }
        }

        int part(int w, int part) {
            int cell = w * PARTS + part;
            return cell < 0 || cell >= parts.length ? NONE : parts[cell];
        }

        void setPart(int w, int part, int value) {
            int cell = w * PARTS + part;
            if (cell >= 0 && cell < parts.length) {
                parts[cell] = value;
            }
        }

        void addPerson(int kind, int skill, int hard, int house, int wants) {
            if (people >= MOST_PEOPLE) {
                return;
            }
            setTrait(people, KIND, kind);
            setTrait(people, SKILL, skill);
            setTrait(people, HARD, hard);
            setTrait(people, HOUSE, house);
            setTrait(people, AT, house);
            setTrait(people, WANTS, wants);
            setTrait(people, CARRIED, 0);
            setTrait(people, WON, NONE);
            people++;
        }

        void addWrong(int who, int whom, int weight) {
            if (wrongs >= MOST_WRONGS) {
                return;
            }
            setPart(wrongs, WHO, who);
            setPart(wrongs, WHOM, whom);
            setPart(wrongs, WEIGHT, weight);
            setPart(wrongs, FORGIVEN, NONE);
            wrongs++;
        }

        boolean isOpen(int w) {
            return part(w, FORGIVEN) == NONE;
        }

        int need(int w) {
            return part(w, WEIGHT) + trait(part(w, WHOM), HARD) / 2;
        }

        private int milesOf(int w, int p) {
            return Math.abs(trait(p, AT) - trait(part(w, WHOM), HOUSE));
        }

        int saying(int w, int p) {
            return sayingOf(trait(p, KIND), trait(p, SKILL), trait(p, CARRIED), milesOf(w, p));
        }

        boolean mayCarry(int w, int p) {
            if (!hasWrong(w) || !hasPerson(p) || !isOpen(w)) {
                return false;
            }
            int whom = part(w, WHOM);
            return trait(p, WANTS) == part(w, WHO) && p != whom
                && !isBarred(trait(p, AT), trait(whom, HOUSE), day);
        }

        /** What COMES of a WRONG by one who MAY: 0 not, 1 FORGIVEN, 2 WON, too. */
        int outcome(int w, int p) {
            int spare = saying(w, p) - need(w);
            if (spare < 0) {
                return 0;
            }
            return spare >= 4 && trait(part(w, WHOM), WON) == NONE ? 2 : 1;
        }

        /** A WRONG is CARRIED by one who MAY: what came of it. */
        int deliver(int w, int p) {
            int outcome = outcome(w, p);
            int whom = part(w, WHOM);
            if (outcome == 0) {
                int heavier = part(w, WEIGHT) + stingOf(trait(p, KIND));
                setPart(w, WEIGHT, Math.min(MOST_WEIGHT, heavier));
            } else {
                setPart(w, FORGIVEN, p);
            }
            if (outcome == 2) {
                setTrait(whom, WON, p);
                setTrait(p, WANTS, NONE);
            }
            setTrait(p, AT, trait(whom, HOUSE));
            setTrait(p, CARRIED, trait(p, CARRIED) + 1);
            nextDay();
            return outcome;
        }

        int leastSkill(int w, int p) {
            for (int skill = 0; skill <= MOST_FIGURE; skill++) {
                if (sayingOf(trait(p, KIND), skill, trait(p, CARRIED), milesOf(w, p)) >= need(w)) {
                    return skill;
                }
            }
            return NONE;
        }

        /** Whom one comes to by so many steps of wanting; NONE where it ended. */
        private int wantedAfter(int p, int steps) {
            int at = p;
            for (int step = 0; step < steps && at != NONE; step++) {
                at = trait(at, WANTS);
            }
            return at;
        }

        int chainRound(int p) {
            // After as many steps as there are PEOPLE one is among those that come round, if any do.
            int inside = wantedAfter(p, people);
            if (inside == NONE) {
                return 0;
            }
            int round = 1;
            while (round < people && wantedAfter(inside, round) != inside) {
                round++;
            }
            return round;
        }

        int chainAhead(int p) {
            int round = chainRound(p);
            int ahead = 0;
            while (ahead < people && wantedAfter(p, ahead) != (round == 0 ? NONE : wantedAfter(p, ahead + round))) {
                ahead++;
            }
            return ahead;
        }

        int forgiven() {
            return wrongs - Integer.bitCount(openSet());
        }

        int openSet() {
            int set = 0;
            for (int w = 0; w < wrongs; w++) {
                if (isOpen(w)) {
                    set |= 1 << w;
                }
            }
            return set;
        }

        int openWeight() {
            int sum = 0;
            for (int w = 0; w < wrongs; w++) {
                if (isOpen(w)) {
                    sum += part(w, WEIGHT);
                }
            }
            return sum;
        }

        int wonSet() {
            int set = 0;
            for (int p = 0; p < people; p++) {
                if (trait(p, WON) != NONE) {
                    set |= 1 << p;
                }
            }
            return set;
        }

        int carriedByAll() {
            int sum = 0;
            for (int p = 0; p < people; p++) {
                sum += trait(p, CARRIED);
            }
            return sum;
        }
    }

    /** How the COAST was ahead of each of the latest ACTS: a ring, so that the oldest gives way. */
    private static final class Past {
        private final Coast[] ring = new Coast[MOST_ACTS];
        private int next;
        private int acts;

        Past() {
            for (int i = 0; i < ring.length; i++) {
                ring[i] = new Coast();
            }
        }

        int acts() {
            return acts;
        }

        void forget() {
            acts = 0;
        }

        void keep(Coast coast) {
            Coast room = at(next);
            if (room == null) {
                return;
            }
            room.copyFrom(coast);
            next = (next + 1) % MOST_ACTS;
            acts = Math.min(MOST_ACTS, acts + 1);
        }

        boolean takeBack(Coast coast) {
            int latest = (next + MOST_ACTS - 1) % MOST_ACTS;
            Coast before = at(latest);
            if (acts < 1 || before == null) {
                return false;
            }
            coast.copyFrom(before);
            next = latest;
            acts--;
            return true;
        }

        private Coast at(int i) {
            return i < 0 || i >= ring.length ? null : ring[i];
        }
    }

    /** MATCH, reckoned from the last WRONG back for every set of PEOPLE who carry already. */
    private static final class Matching {
        private static final int SETS = 1 << MOST_PEOPLE;
        /** One FORGIVEN more outweighs as many WON as there can be. */
        private static final int FORGIVEN_WORTH = 16;

        private final int[] worth = new int[MOST_WRONGS * MOST_PEOPLE];
        private final int[] best = new int[(MOST_WRONGS + 1) * SETS];
        private final int[] carriers = new int[MOST_WRONGS];
        private int forgiven;

        int forgiven() {
            return forgiven;
        }

        int carrierOf(int w) {
            return w < 0 || w >= carriers.length ? NONE : carriers[w];
        }

        void settle(Coast coast) {
            weigh(coast);
            Arrays.fill(best, 0);
            for (int w = coast.wrongs() - 1; w >= 0; w--) {
                for (int set = 0; set < SETS; set++) {
                    setBest(w, set, worthOf(w, set, firstCarrier(w, set)));
                }
            }
            choose(coast.wrongs());
        }

        /** The worth of each WRONG by each PERSON; 0 where it would not be FORGIVEN. */
        private void weigh(Coast coast) {
            for (int cell = 0; cell < worth.length; cell++) {
                int w = cell / MOST_PEOPLE;
                int p = cell % MOST_PEOPLE;
                int outcome = coast.mayCarry(w, p) ? coast.outcome(w, p) : 0;
                worth[cell] = outcome == 0 ? 0 : outcome == 1 ? FORGIVEN_WORTH : FORGIVEN_WORTH - 1;
            }
        }

        /** The least PERSON by whom this WRONG and the later ones are worth most, or NONE. */
        private int firstCarrier(int w, int set) {
            int first = NONE;
            int most = -1;
            for (int p = 0; p < MOST_PEOPLE; p++) {
                if (pairWorth(w, p) > 0 && (set >> p & 1) == 0 && worthOf(w, set, p) > most) {
                    most = worthOf(w, set, p);
                    first = p;
                }
            }
            return worthOf(w, set, NONE) > most ? NONE : first;
        }

        private int worthOf(int w, int set, int p) {
            return p < 0 ? bestAt(w + 1, set) : pairWorth(w, p) + bestAt(w + 1, set | 1 << p);
        }

        private int pairWorth(int w, int p) {
            int cell = w * MOST_PEOPLE + p;
            return cell < 0 || cell >= worth.length ? 0 : worth[cell];
        }

        private int bestAt(int w, int set) {
            int cell = w * SETS + set;
            return cell < 0 || cell >= best.length ? 0 : best[cell];
        }

        private void setBest(int w, int set, int value) {
            int cell = w * SETS + set;
            if (cell >= 0 && cell < best.length) {
                best[cell] = value;
            }
        }

        private void choose(int wrongs) {
            int set = 0;
            forgiven = 0;
            for (int w = 0; w < wrongs && w < carriers.length; w++) {
                int p = firstCarrier(w, set);
                carriers[w] = p;
                if (p >= 0) {
                    set |= 1 << p;
                    forgiven++;
                }
            }
        }
    }

    /** PLAN, by trying each DAY's doings in their order. */
    private static final class Planner {
        private final Coast[] tomorrows = {new Coast(), new Coast(), new Coast()};
        /** A row for each depth: the best doings from there on. */
        private final int[] steps = new int[(PLAN_DAYS + 1) * PLAN_DAYS];

        int step(int k) {
            return k < 0 || k >= PLAN_DAYS ? NONE : steps[k];
        }

        /** How many more can be FORGIVEN in the DAYS left; row depth holds the first of the best doings then. */
        int bestFrom(Coast from, int depth, int left) {
            if (left < 1 || depth < 0 || depth >= PLAN_DAYS) {
                return 0;
            }
            int best = -1;
            for (int doing = 0; doing <= NOTHING_DONE && best < left; doing++) {
                int gain = gainOf(from, doing);
                // A later doing must forgive more, and no DAY forgives more than one.
                if (gain < 0 || gain + left - 1 <= best) {
                    continue;
                }
                int total = gain + bestBehind(from, doing, depth, left);
                if (total > best) {
                    best = total;
                    keep(depth, doing);
                }
            }
            return best;
        }

        private int bestBehind(Coast from, int doing, int depth, int left) {
            Coast next = depth < 0 || depth >= tomorrows.length ? null : tomorrows[depth];
            if (left <= 1 || next == null) {
                return 0;
            }
            next.copyFrom(from);
            if (doing == NOTHING_DONE) {
                next.nextDay();
            } else {
                next.deliver(doing / 10, doing % 10);
            }
            return bestFrom(next, depth + 1, left - 1);
        }

        /** 1 if a WRONG is FORGIVEN by it, 0 if none, -1 if it cannot be done. */
        private static int gainOf(Coast from, int doing) {
            if (doing == NOTHING_DONE) {
                return 0;
            }
            if (!from.mayCarry(doing / 10, doing % 10)) {
                return -1;
            }
            return from.outcome(doing / 10, doing % 10) > 0 ? 1 : 0;
        }

        private void keep(int depth, int doing) {
            int row = depth * PLAN_DAYS;
            int below = row + PLAN_DAYS;
            if (row < 0 || below + PLAN_DAYS > steps.length) {
                return;
            }
            steps[row] = doing;
            System.arraycopy(steps, below, steps, row + 1, PLAN_DAYS - 1);
        }
    }

    /** A row of a LANE, or nothing. */
    private static final class Sheet {
        private static final int NO_LANE = -1;

        private final long[] items = new long[MOST_ITEMS];
        private int lane = NO_LANE;
        private int size;

        boolean isNothing() {
            return lane == NO_LANE;
        }

        int lane() {
            return lane;
        }

        void lay(int newLane, int newSize) {
            Arrays.fill(items, 0L);
            lane = newLane;
            size = newSize;
        }

        int clear() {
            int had = size;
            lay(NO_LANE, 0);
            return had;
        }

        /** Whether there are so many items from i on; taken apart so that no sum overflows. */
        boolean holds(int i, int n) {
            return i >= 0 && n >= 0 && n <= size && i <= size - n;
        }

        long get(int i) {
            return i < 0 || i >= items.length ? 0L : items[i];
        }

        void put(int i, long v) {
            if (i >= 0 && i < items.length) {
                items[i] = lowestBits(v);
            }
        }

        void take(Sheet source, int i, int j, int n) {
            if (source.holds(i, n) && holds(j, n)) {
                System.arraycopy(source.items, i, items, j, n);
            }
        }

        private long lowestBits(long v) {
            switch (lane) {
                case 0:
                    return (byte) v;
                case 1:
                    return (short) v;
                case 2:
                    return (int) v;
                default:
                    return v;
            }
        }
    }

    /** What each candidate (a SKILL or a KIND) would say by each of the MILES, and which fit what was SAID. */
    private static final class Guess {
        private static final int WAYS = LAST_MILE + 1;

        private final int[] sayings = new int[(MOST_FIGURE + 1) * WAYS];
        private int first;
        private int last;

        void amongSkills(Coast coast, int p) {
            first = 0;
            last = MOST_FIGURE;
            for (int cell = 0; cell < sayings.length; cell++) {
                sayings[cell] = sayingOf(coast.trait(p, KIND), cell / WAYS, coast.trait(p, CARRIED), cell % WAYS);
            }
        }

        void amongKinds(Coast coast, int p) {
            first = CARRIER;
            last = RIDER;
            for (int cell = 0; cell < sayings.length; cell++) {
                sayings[cell] = sayingOf(cell / WAYS, coast.trait(p, SKILL), coast.trait(p, CARRIED), cell % WAYS);
            }
        }

        int answer(Sheet row, int i, int n, int what) {
            if (row == null) {
                return NULL;
            }
            int set = fitting(row, i, n);
            return what == 0 ? set : bestTry(set);
        }

        private int fitting(Sheet row, int i, int n) {
            int set = 0;
            for (int c = first; c <= last; c++) {
                if (fits(c, row, i, n)) {
                    set |= 1 << c;
                }
            }
            return set;
        }

        private boolean fits(int c, Sheet row, int i, int n) {
            for (int pair = 0; pair < n; pair++) {
                int miles = (int) row.get(i + 2 * pair);
                if (row.get(i + 2 * pair + 1) != sayingAt(c, miles)) {
                    return false;
                }
            }
            return true;
        }

        private int sayingAt(int c, int miles) {
            int cell = c * WAYS + miles;
            return cell < 0 || cell >= sayings.length ? 0 : sayings[cell];
        }

        private int bestTry(int set) {
            int best = NONE;
            int least = Integer.bitCount(set) + 1;
            for (int miles = 0; set != 0 && miles < WAYS; miles++) {
                int greatest = greatestPart(set, miles);
                if (greatest < least) {
                    least = greatest;
                    best = miles;
                }
            }
            return best;
        }

        private int greatestPart(int set, int miles) {
            int greatest = 0;
            for (int c = first; c <= last; c++) {
                greatest = Math.max(greatest, partLike(c, set, miles));
            }
            return greatest;
        }

        /** How many of the set say as much as this one of it. */
        private int partLike(int c, int set, int miles) {
            int like = 0;
            for (int other = first; other <= last && (set >> c & 1) != 0; other++) {
                if ((set >> other & 1) != 0 && sayingAt(other, miles) == sayingAt(c, miles)) {
                    like++;
                }
            }
            return like;
        }
    }
}
