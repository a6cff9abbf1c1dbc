import java.util.ArrayDeque;
import java.util.ArrayList;
import java.util.Deque;
import java.util.HashMap;
import java.util.List;
import java.util.Map;
import java.util.TreeSet;
import java.util.regex.Matcher;
import java.util.regex.Pattern;

/**
 * The document once more, told as plainly as the Java library allows and by other ways than the class goes:
 * patterns for the tape, trials of all assignments for MATCH and PLAN, lists and maps. RandomRunsTest holds the class against it.
 */
final class Model {
    private static final int BAD = -1, NOT = -2, FULL = -3, NONE = -4, NULL = -11, CAST = -12, INDEX = -13, SIZE = -14;

    private static class Person {
        char letter;
        int skill, hard, house, at, wants, carried, won = NONE;

        Person() {
        }

        Person(Person o) {
            letter = o.letter;
            skill = o.skill;
            hard = o.hard;
            house = o.house;
            at = o.at;
            wants = o.wants;
            carried = o.carried;
            won = o.won;
        }

        int says(int miles) {
            return says(letter, skill, carried, miles);
        }

        static int says(char letter, int skill, int carried, int miles) {
            int carrier = skill;
            int adder = carrier + 2;
            return letter == 'c' ? carrier : letter == 'a' ? adder : letter == 'f' ? carrier / 2
                : letter == 'b' ? carried + 2 : adder + miles / 2;
        }

        int stings() {
            return letter == 'c' || letter == 'a' ? 1 : letter == 'f' ? 2 : 0;
        }
    }

    private static class Wrong {
        int who, whom, weight, by = NONE;

        Wrong(int who, int whom, int weight) {
            this.who = who;
            this.whom = whom;
            this.weight = weight;
        }

        Wrong(Wrong o) {
            this(o.who, o.whom, o.weight);
            by = o.by;
        }
    }

    private static class State {
        final List<Person> people = new ArrayList<>();
        final List<Wrong> wrongs = new ArrayList<>();
        int day;

        State() {
        }

        State(State o) {
            o.people.forEach(p -> people.add(new Person(p)));
            o.wrongs.forEach(w -> wrongs.add(new Wrong(w)));
            day = o.day;
        }

        boolean bad(int w, int p) {
            return w < 0 || w >= wrongs.size() || noPerson(p);
        }

        boolean noPerson(int p) {
            return p < 0 || p >= people.size();
        }

        int houseOfVictim(int w) {
            return people.get(wrongs.get(w).whom).house;
        }

        int said(int w, int p) {
            return people.get(p).says(Math.abs(people.get(p).at - houseOfVictim(w)));
        }

        int need(int w) {
            return wrongs.get(w).weight + people.get(wrongs.get(w).whom).hard / 2;
        }

        boolean may(int w, int p) {
            boolean crosses = people.get(p).at < 5 ^ houseOfVictim(w) < 5;
            Wrong wrong = wrongs.get(w);
            return wrong.by == NONE && people.get(p).wants == wrong.who && p != wrong.whom && !(crosses && day % 2 == 1);
        }

        int comes(int w, int p) {
            if (said(w, p) < need(w)) {
                return 0;
            }
            return said(w, p) >= need(w) + 4 && people.get(wrongs.get(w).whom).won == NONE ? 2 : 1;
        }

        int carry(int w, int p) {
            int comes = comes(w, p);
            Wrong wrong = wrongs.get(w);
            Person rival = people.get(p);
            if (comes == 0) {
                wrong.weight = Math.min(9, wrong.weight + rival.stings());
            } else {
                wrong.by = p;
            }
            if (comes == 2) {
                people.get(wrong.whom).won = p;
                rival.wants = NONE;
            }
            rival.at = houseOfVictim(w);
            rival.carried++;
            day++;
            return comes;
        }
    }

    private static class Sheet {
        int lane;
        long[] items;
    }

    private final StringBuilder tape = new StringBuilder();
    private State now = new State();
    private final Deque<State> past = new ArrayDeque<>();
    private final State[] images = new State[2];
    private final Sheet[] sheets = new Sheet[4];

    private boolean noCoast() {
        return now.people.isEmpty();
    }

    private void act() {
        past.addLast(new State(now));
        if (past.size() > 24) {
            past.removeFirst();
        }
    }

    int feed(int letter) {
        if (letter < 0 || letter > 255) {
            return BAD;
        }
        if (tape.length() >= 130) {
            return FULL;
        }
        tape.append((char) letter);
        return tape.length();
    }

    private static Pattern coastOf(int people) {
        StringBuilder all = new StringBuilder("r" + people);
        StringBuilder pairs = new StringBuilder();
        for (int p = 0; p < people; p++) {
            StringBuilder others = new StringBuilder();
            for (int o = 0; o < people; o++) {
                others.append(o == p ? "" : String.valueOf(o));
            }
            all.append(p > 0 ? "," : "").append("[cafbr][0-9][0-9][0-9][").append(others).append("-]");
            pairs.append(p > 0 ? "|" : "").append(p).append("[").append(others).append("]");
        }
        String wrong = "(?:" + pairs + ")[1-9]";
        return Pattern.compile(all + ";" + wrong + "(?:," + wrong + "){0,7};[01]");
    }

    private static final Pattern[] COASTS = {coastOf(2), coastOf(3), coastOf(4), coastOf(5), coastOf(6)};

    private static boolean canGoOn(String head) {
        for (Pattern pattern : COASTS) {
            Matcher matcher = pattern.matcher(head);
            if (matcher.matches() || matcher.hitEnd()) {
                return true;
            }
        }
        return false;
    }

    private static boolean isCoast(String text) {
        for (Pattern pattern : COASTS) {
            if (pattern.matcher(text).matches()) {
                return true;
            }
        }
        return false;
    }

    int coast() {
        String text = tape.toString();
        tape.setLength(0);
        if (!isCoast(text)) {
            int place = 0;
            while (place < text.length() && canGoOn(text.substring(0, place + 1))) {
                place++;
            }
            return -100 - place;
        }
        String[] parts = text.substring(2).split(";");
        State read = new State();
        for (String one : parts[0].split(",")) {
            Person p = new Person();
            p.letter = one.charAt(0);
            p.skill = one.charAt(1) - '0';
            p.hard = one.charAt(2) - '0';
            p.house = one.charAt(3) - '0';
            p.at = p.house;
            p.wants = one.charAt(4) == '-' ? NONE : one.charAt(4) - '0';
            read.people.add(p);
        }
        for (String one : parts[1].split(",")) {
            read.wrongs.add(new Wrong(one.charAt(0) - '0', one.charAt(1) - '0', one.charAt(2) - '0'));
        }
        read.day = Integer.parseInt(parts[2]);
        now = read;
        past.clear();
        return read.wrongs.size();
    }

    int person(int person, int what) {
        if (now.noPerson(person) || what < 0 || what > 7) {
            return BAD;
        }
        Person p = now.people.get(person);
        return new int[] {" cafbr".indexOf(p.letter), p.skill, p.hard, p.house, p.at, p.wants, p.carried, p.won}[what];
    }

    int as(int person, int kind) {
        if (now.noPerson(person) || kind < 0 || kind > 5) {
            return BAD;
        }
        String[] who = {"cafbr", "cafr", "ar", "f", "b", "r"};
        return who[kind].indexOf(now.people.get(person).letter) >= 0 ? person : CAST;
    }

    int wrong(int wrong, int what) {
        if (wrong < 0 || wrong >= now.wrongs.size() || what < 0 || what > 4) {
            return BAD;
        }
        Wrong w = now.wrongs.get(wrong);
        return new int[] {w.who, w.whom, w.weight, w.by, now.need(wrong)}[what];
    }

    int carry(int wrong, int person) {
        if (now.bad(wrong, person)) {
            return BAD;
        }
        if (!now.may(wrong, person)) {
            return NOT;
        }
        act();
        return now.carry(wrong, person);
    }

    int lend(int person, int other) {
        if (now.noPerson(person) || now.noPerson(other) || person == other) {
            return BAD;
        }
        int before = now.people.get(person).wants;
        if (before == other) {
            return NOT;
        }
        act();
        now.people.get(person).wants = other;
        return before;
    }

    int sin(int who, int whom, int weight) {
        if (now.noPerson(who) || now.noPerson(whom) || who == whom || weight < 1 || weight > 9) {
            return BAD;
        }
        if (now.wrongs.size() == 8) {
            return FULL;
        }
        act();
        now.wrongs.add(new Wrong(who, whom, weight));
        return now.wrongs.size() - 1;
    }

    int harden(int person, int hard) {
        if (now.noPerson(person) || hard < 0 || hard > 9) {
            return BAD;
        }
        int before = now.people.get(person).hard;
        if (before == hard) {
            return NOT;
        }
        act();
        now.people.get(person).hard = hard;
        return before;
    }

    int pass() {
        if (noCoast()) {
            return NOT;
        }
        act();
        now.day++;
        return now.day;
    }

    int undo() {
        if (past.isEmpty()) {
            return NONE;
        }
        now = past.removeLast();
        return past.size();
    }

    int image(int k) {
        if (k != 0 && k != 1) {
            return BAD;
        }
        if (noCoast()) {
            return NOT;
        }
        images[k] = new State(now);
        return now.day;
    }

    int restore(int k) {
        if (k != 0 && k != 1) {
            return BAD;
        }
        if (images[k] == null) {
            return NOT;
        }
        now = new State(images[k]);
        past.clear();
        return now.day;
    }

    int said(int wrong, int person) {
        return now.bad(wrong, person) ? BAD : now.said(wrong, person);
    }

    int comes(int wrong, int person) {
        return now.bad(wrong, person) ? BAD : now.may(wrong, person) ? now.comes(wrong, person) : NOT;
    }

    int least(int wrong, int person) {
        if (now.bad(wrong, person)) {
            return BAD;
        }
        if (!now.may(wrong, person)) {
            return NOT;
        }
        for (int skill = 0; skill <= 9; skill++) {
            State trial = new State(now);
            trial.people.get(person).skill = skill;
            if (trial.comes(wrong, person) > 0) {
                return skill;
            }
        }
        return NONE;
    }

    /** All assignments, in their order, the first of the best kept. */
    private final class Matches {
        final int[] trial = new int[now.wrongs.size()];
        int[] best = null;
        int mostForgiven, fewestWon;

        void from(int w, int used, int forgiven, int won) {
            if (w == trial.length) {
                if (best == null || forgiven > mostForgiven || forgiven == mostForgiven && won < fewestWon) {
                    best = trial.clone();
                    mostForgiven = forgiven;
                    fewestWon = won;
                }
                return;
            }
            for (int p = 0; p < now.people.size(); p++) {
                if ((used & 1 << p) == 0 && now.may(w, p) && now.comes(w, p) > 0) {
                    trial[w] = p;
                    from(w + 1, used | 1 << p, forgiven + 1, won + now.comes(w, p) - 1);
                }
            }
            trial[w] = NONE;
            from(w + 1, used, forgiven, won);
        }
    }

    int match(int wrong) {
        if (wrong < -1 || wrong >= 0 && wrong >= now.wrongs.size()) {
            return BAD;
        }
        if (noCoast()) {
            return NOT;
        }
        Matches all = new Matches();
        all.from(0, 0, 0, 0);
        return wrong == -1 ? all.mostForgiven : all.best[wrong];
    }

    int chain(int person, int what) {
        if (now.noPerson(person) || what != 0 && what != 1) {
            return BAD;
        }
        List<Integer> met = new ArrayList<>();
        int at = person;
        while (at != NONE && !met.contains(at)) {
            met.add(at);
            at = now.people.get(at).wants;
        }
        int ahead = at == NONE ? met.size() : met.indexOf(at);
        return what == 0 ? ahead : met.size() - ahead;
    }

    int reach(int person, int mile) {
        if (now.noPerson(person) || mile < 0 || mile > 9) {
            return BAD;
        }
        TreeSet<Integer> here = new TreeSet<>(List.of(now.people.get(person).at));
        int days = 0;
        for (; !here.contains(mile); days++) {
            TreeSet<Integer> next = new TreeSet<>();
            for (int from : here) {
                for (int to = 0; to <= 9; to++) {
                    boolean odd = (now.day + days) % 2 == 1;
                    if (Math.abs(to - from) <= 3 && !(odd && Math.min(from, to) <= 4 && Math.max(from, to) >= 5)) {
                        next.add(to);
                    }
                }
            }
            here = next;
        }
        return days;
    }

    /** The first of the best plans, its worth ahead. */
    private static List<Integer> planned(State from, int days) {
        if (days == 0) {
            return List.of(0);
        }
        List<Integer> best = null;
        for (int code = 0; code <= 99; code++) {
            State next = new State(from);
            int gain = 0;
            if (code == 99) {
                next.day++;
            } else if (from.bad(code / 10, code % 10) || !from.may(code / 10, code % 10)) {
                continue;
            } else {
                gain = next.carry(code / 10, code % 10) > 0 ? 1 : 0;
            }
            List<Integer> rest = planned(next, days - 1);
            if (best == null || gain + rest.get(0) > best.get(0)) {
                best = new ArrayList<>();
                best.add(gain + rest.get(0));
                best.add(code);
                best.addAll(rest.subList(1, rest.size()));
            }
        }
        return best;
    }

    int plan(int n, int k) {
        if (n < 0 || n > 3 || k < -1) {
            return BAD;
        }
        if (noCoast()) {
            return NOT;
        }
        return k >= n ? NONE : planned(now, n).get(k + 1);
    }

    int gusts(int wrong, int person, int q, int what) {
        if (now.bad(wrong, person) || q < 0 || q > 10 || what != 0 && what != 1) {
            return BAD;
        }
        if (!now.may(wrong, person)) {
            return NOT;
        }
        int good = 0;
        for (int draw = 0; draw < 1000; draw++) {
            int gusts = (draw % 10 < q ? 1 : 0) + (draw / 10 % 10 < q ? 1 : 0) + (draw / 100 < q ? 1 : 0);
            good += now.said(wrong, person) - gusts >= now.need(wrong) ? 1 : 0;
        }
        int divisor = java.math.BigInteger.valueOf(good).gcd(java.math.BigInteger.valueOf(1000)).intValue();
        return what == 0 ? good / divisor : 1000 / divisor;
    }

    int decades(int n, int seed, int what) {
        if (n < 0 || n > 60 || seed < 1 || seed > 999999 || what != 0 && what != 1) {
            return BAD;
        }
        if (noCoast()) {
            return NOT;
        }
        State trial = new State(now);
        long x = seed;
        for (int i = 0; i < n; i++) {
            x = x * 16807 % 2147483647;
            int w = (int) (x % trial.wrongs.size());
            int p = (int) (x / 16 % trial.people.size());
            if (trial.may(w, p)) {
                trial.carry(w, p);
            } else {
                trial.day++;
            }
        }
        return what == 0 ? (int) trial.wrongs.stream().filter(w -> w.by != NONE).count() : wonSet(trial);
    }

    private static int wonSet(State state) {
        int set = 0;
        for (int p = 0; p < state.people.size(); p++) {
            set |= state.people.get(p).won == NONE ? 0 : 1 << p;
        }
        return set;
    }

    private static boolean noSheet(int sheet) {
        return sheet < 0 || sheet > 3;
    }

    int sheet(int sheet, int lane, int n) {
        if (noSheet(sheet) || lane < 0 || lane > 3 || n > 24) {
            return BAD;
        }
        if (n < 0) {
            return SIZE;
        }
        sheets[sheet] = new Sheet();
        sheets[sheet].lane = lane;
        sheets[sheet].items = new long[n];
        return n;
    }

    int drop(int sheet) {
        if (noSheet(sheet)) {
            return BAD;
        }
        if (sheets[sheet] == null) {
            return NULL;
        }
        int had = sheets[sheet].items.length;
        sheets[sheet] = null;
        return had;
    }

    private static long cut(int lane, long v) {
        int bits = 8 << lane;
        return v << 64 - bits >> 64 - bits;
    }

    /** 0, or why items i .. (i + n, n left out) of a sheet can't be had. */
    private int refuse(int sheet, int lane, long i, long n) {
        if (noSheet(sheet) || lane < 0 || lane > 3) {
            return BAD;
        }
        if (sheets[sheet] == null) {
            return NULL;
        }
        if (sheets[sheet].lane != lane) {
            return CAST;
        }
        return i < 0 || n < 0 || i + n > sheets[sheet].items.length ? INDEX : 0;
    }

    long item(int sheet, int lane, int i, long v) {
        int refused = refuse(sheet, lane, i, 1);
        if (refused != 0) {
            return refused;
        }
        sheets[sheet].items[i] = cut(lane, v);
        return sheets[sheet].items[i];
    }

    int copy(int from, int i, int to, int j, int n) {
        if (noSheet(from) || noSheet(to)) {
            return BAD;
        }
        if (sheets[from] == null || sheets[to] == null) {
            return NULL;
        }
        if (sheets[from].lane != sheets[to].lane) {
            return CAST;
        }
        if (refuse(from, sheets[from].lane, i, n) != 0 || refuse(to, sheets[to].lane, j, n) != 0) {
            return INDEX;
        }
        long[] taken = sheets[from].items.clone();
        for (int k = 0; k < n; k++) {
            sheets[to].items[j + k] = taken[i + k];
        }
        return n;
    }

    int log(int person, int sheet, int lane, int i) {
        if (now.noPerson(person)) {
            return BAD;
        }
        int refused = refuse(sheet, lane, i, now.wrongs.size());
        if (refused != 0) {
            return refused;
        }
        for (int w = 0; w < now.wrongs.size(); w++) {
            sheets[sheet].items[i + w] = cut(lane, now.said(w, person));
        }
        return now.wrongs.size();
    }

    private int guess(boolean ofKinds, int person, int sheet, int lane, int i, int n, int what) {
        if (now.noPerson(person) || n < 1 || n > 10 || what != 0 && what != 1) {
            return BAD;
        }
        int refused = refuse(sheet, lane, i, 2L * n);
        if (refused != 0) {
            return refused;
        }
        long[] items = sheets[sheet].items;
        for (int pair = 0; pair < n; pair++) {
            if (items[i + 2 * pair] < 0 || items[i + 2 * pair] > 9) {
                return NOT;
            }
        }
        Person one = now.people.get(person);
        List<Integer> fitting = new ArrayList<>();
        for (int c = ofKinds ? 1 : 0; c <= (ofKinds ? 5 : 9); c++) {
            boolean fits = true;
            for (int pair = 0; pair < n; pair++) {
                fits &= says(ofKinds, one, c, (int) items[i + 2 * pair]) == items[i + 2 * pair + 1];
            }
            if (fits) {
                fitting.add(c);
            }
        }
        return what == 0 ? fitting.stream().mapToInt(c -> 1 << c).sum() : next(ofKinds, one, fitting);
    }

    private static int next(boolean ofKinds, Person one, List<Integer> fitting) {
        int best = NONE;
        int least = 99;
        for (int miles = 0; miles <= 9 && !fitting.isEmpty(); miles++) {
            Map<Integer, Integer> parts = new HashMap<>();
            for (int c : fitting) {
                parts.merge(says(ofKinds, one, c, miles), 1, Integer::sum);
            }
            int greatest = parts.values().stream().mapToInt(v -> v).max().getAsInt();
            if (greatest < least) {
                least = greatest;
                best = miles;
            }
        }
        return best;
    }

    private static int says(boolean ofKinds, Person one, int candidate, int miles) {
        return ofKinds ? Person.says(" cafbr".charAt(candidate), one.skill, one.carried, miles)
            : Person.says(one.letter, candidate, one.carried, miles);
    }

    int skills(int person, int sheet, int lane, int i, int n, int what) {
        return guess(false, person, sheet, lane, i, n, what);
    }

    int kinds(int person, int sheet, int lane, int i, int n, int what) {
        return guess(true, person, sheet, lane, i, n, what);
    }

    int count(int what) {
        int open = 0;
        int weight = 0;
        for (int w = 0; w < now.wrongs.size(); w++) {
            if (now.wrongs.get(w).by == NONE) {
                open |= 1 << w;
                weight += now.wrongs.get(w).weight;
            }
        }
        int carried = now.people.stream().mapToInt(p -> p.carried).sum();
        int[] all = {now.people.size(), now.wrongs.size(), open, now.day, carried, wonSet(now), weight, past.size(), tape.length()};
        return what < 0 || what > 8 ? BAD : all[what];
    }
}
