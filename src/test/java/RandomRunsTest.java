import java.util.Random;

/** Runs of random calls, by fixed seeds, on an object of the class and on the model: the answers must be alike. */
public final class RandomRunsTest {
    private static final Due DUE = new Due("RandomRunsTest");
    private static final int RUNS = 1500;
    /** Fewer than the 512 that are promised, since a whole tape may begin with the last. */
    private static final int CALLS = 430;

    private final Random random;
    private final RivalSorry x = new RivalSorry();
    private final Model model = new Model();
    private final StringBuilder calls = new StringBuilder();
    private final int shy;
    private final int usualLane;
    private int left = CALLS;

    private RandomRunsTest(long seed) {
        random = new Random(seed);
        shy = 2 + random.nextInt(30);
        usualLane = random.nextInt(4);
    }

    public static void main(String[] args) {
        int runs = args.length > 0 ? Integer.parseInt(args[0]) : RUNS;
        int first = args.length > 1 ? Integer.parseInt(args[1]) : 0;
        for (int run = first; run < first + runs && DUE.isClean(); run++) {
            new RandomRunsTest(run).go();
        }
        DUE.end();
    }

    private void go() {
        if (random.nextInt(10) > 0) {
            feedTape();
        }
        while (left > 0 && DUE.isClean()) {
            if (random.nextInt(150) == 0) {
                feedTape();
            } else {
                anyCall();
            }
        }
        if (!DUE.isClean()) {
            System.out.println(calls);
        }
    }

    private void due(String call, long got, long want) {
        left--;
        calls.append(call).append(" = ").append(got).append('\n');
        DUE.is(call, got, want);
    }

    /** A number from 0 on below the bound; now and then one beside it, or far off. */
    private int upTo(int bound) {
        if (random.nextInt(shy * 3) > 0 && bound > 0) {
            return random.nextInt(bound);
        }
        switch (random.nextInt(8)) {
            case 0:
                return Integer.MIN_VALUE;
            case 1:
                return Integer.MAX_VALUE;
            case 2:
                return random.nextInt();
            case 3:
            case 4:
                return -1;
            case 5:
                return bound;
            default:
                return bound + 1;
        }
    }

    private int person() {
        return upTo(model.count(0));
    }

    private int wrong() {
        return upTo(model.count(1));
    }

    private String randomTape() {
        int people = 2 + random.nextInt(5);
        int style = random.nextInt(3);
        StringBuilder text = new StringBuilder("r").append(people);
        int idol = random.nextInt(people);
        for (int p = 0; p < people; p++) {
            int wants = style > 0 && p != idol ? idol : random.nextInt(people);
            text.append(p > 0 ? "," : "").append("cafbr".charAt(random.nextInt(5)));
            text.append(random.nextInt(10)).append(style == 2 ? random.nextInt(4) : random.nextInt(10));
            text.append(random.nextInt(10)).append(wants == p ? "-" : String.valueOf(wants));
        }
        int wrongs = 1 + random.nextInt(8);
        for (int w = 0; w < wrongs; w++) {
            int who = style > 0 && random.nextInt(4) > 0 ? idol : random.nextInt(people);
            int whom = (who + 1 + random.nextInt(people - 1)) % people;
            text.append(w > 0 ? "," : ";").append(who).append(whom).append(1 + random.nextInt(9));
        }
        return text.append(";").append(random.nextInt(2)).toString();
    }

    private String spoilt(String text) {
        int at = random.nextInt(text.length());
        String sign = random.nextInt(6) == 0 ? String.valueOf((char) random.nextInt(256))
            : String.valueOf("rcafb0123456789,;-".charAt(random.nextInt(18)));
        switch (random.nextInt(4)) {
            case 0:
                return text.substring(0, at) + sign + text.substring(at);
            case 1:
                return text.substring(0, at) + sign + text.substring(at + 1);
            case 2:
                return text.substring(0, at) + text.substring(at + 1);
            default:
                return text.substring(0, at);
        }
    }

    private void feedTape() {
        String text = randomTape();
        if (random.nextInt(4) == 0) {
            text = spoilt(text);
        }
        for (int i = 0; i < text.length(); i++) {
            due("feed(" + (int) text.charAt(i) + ")", x.feed(text.charAt(i)), model.feed(text.charAt(i)));
        }
        due("coast()", x.coast(), model.coast());
    }

    private void anyCall() {
        switch (random.nextInt(4)) {
            case 0:
                tellingCall();
                break;
            case 1:
                actingCall();
                break;
            case 2:
                foretellingCall();
                break;
            default:
                sheetCall();
        }
    }

    private void tellingCall() {
        int p = person();
        int w = wrong();
        int what = upTo(9);
        switch (random.nextInt(6)) {
            case 0:
                due("person(" + p + ", " + what + ")", x.person(p, what), model.person(p, what));
                break;
            case 1:
                int kind = upTo(6);
                due("as(" + p + ", " + kind + ")", x.as(p, kind), model.as(p, kind));
                break;
            case 2:
                int part = upTo(5);
                due("wrong(" + w + ", " + part + ")", x.wrong(w, part), model.wrong(w, part));
                break;
            case 3:
                if (random.nextInt(60) == 0) {
                    int letter = upTo(256);
                    due("feed(" + letter + ")", x.feed(letter), model.feed(letter));
                }
                break;
            default:
                due("count(" + what + ")", x.count(what), model.count(what));
        }
    }

    private void actingCall() {
        int p = person();
        int q = person();
        switch (random.nextInt(14)) {
            case 0:
                due("lend(" + p + ", " + q + ")", x.lend(p, q), model.lend(p, q));
                break;
            case 1:
                int weight = upTo(10);
                due("sin(" + p + ", " + q + ", " + weight + ")", x.sin(p, q, weight), model.sin(p, q, weight));
                break;
            case 2:
                int hard = upTo(10);
                due("harden(" + p + ", " + hard + ")", x.harden(p, hard), model.harden(p, hard));
                break;
            case 3:
                due("pass()", x.pass(), model.pass());
                break;
            case 4:
                for (int n = random.nextInt(12) == 0 ? 26 : 1; n > 0; n--) {
                    due("undo()", x.undo(), model.undo());
                }
                break;
            case 5:
                int k = upTo(2);
                due("image(" + k + ")", x.image(k), model.image(k));
                break;
            case 6:
                int old = upTo(2);
                due("restore(" + old + ")", x.restore(old), model.restore(old));
                break;
            default:
                int w = wrong();
                due("carry(" + w + ", " + p + ")", x.carry(w, p), model.carry(w, p));
        }
    }

    private void foretellingCall() {
        int p = person();
        int w = wrong();
        int what = upTo(2);
        switch (random.nextInt(9)) {
            case 0:
                due("said(" + w + ", " + p + ")", x.said(w, p), model.said(w, p));
                break;
            case 1:
                due("comes(" + w + ", " + p + ")", x.comes(w, p), model.comes(w, p));
                break;
            case 2:
                due("least(" + w + ", " + p + ")", x.least(w, p), model.least(w, p));
                break;
            case 3:
                int m = random.nextInt(3) == 0 ? -1 : w;
                due("match(" + m + ")", x.match(m), model.match(m));
                break;
            case 4:
                due("chain(" + p + ", " + what + ")", x.chain(p, what), model.chain(p, what));
                break;
            case 5:
                int mile = upTo(10);
                due("reach(" + p + ", " + mile + ")", x.reach(p, mile), model.reach(p, mile));
                break;
            case 6:
                int n = random.nextInt(4) > 0 ? upTo(3) : upTo(4);
                int k = random.nextInt(4) == 0 ? -1 : upTo(3);
                due("plan(" + n + ", " + k + ")", x.plan(n, k), model.plan(n, k));
                break;
            case 7:
                int q = upTo(11);
                due("gusts(" + w + ", " + p + ", " + q + ", " + what + ")", x.gusts(w, p, q, what), model.gusts(w, p, q, what));
                break;
            default:
                int draws = upTo(61);
                int seed = upTo(1000000);
                due("decades(" + draws + ", " + seed + ", " + what + ")", x.decades(draws, seed, what), model.decades(draws, seed, what));
        }
    }

    private void sheetCall() {
        int s = random.nextInt(3) > 0 ? random.nextInt(2) : upTo(4);
        int lane = random.nextInt(4) > 0 ? usualLane : upTo(4);
        int i = upTo(6);
        switch (random.nextInt(9)) {
            case 0:
                int n = upTo(25);
                due("sheet(" + s + ", " + lane + ", " + n + ")", x.sheet(s, lane, n), model.sheet(s, lane, n));
                break;
            case 1:
                if (random.nextInt(4) == 0) {
                    due("drop(" + s + ")", x.drop(s), model.drop(s));
                }
                break;
            case 2:
            case 3:
                long v = random.nextInt(9) == 0 ? random.nextLong() : upTo(10);
                due("item(" + s + ", " + lane + ", " + i + ", " + v + ")", x.item(s, lane, i, v), model.item(s, lane, i, v));
                break;
            case 4:
                int to = upTo(4);
                int j = upTo(12);
                int many = upTo(8);
                due("copy(" + s + ", " + i + ", " + to + ", " + j + ", " + many + ")", x.copy(s, i, to, j, many), model.copy(s, i, to, j, many));
                break;
            case 5:
                int p = person();
                due("log(" + p + ", " + s + ", " + lane + ", " + i + ")", x.log(p, s, lane, i), model.log(p, s, lane, i));
                break;
            default:
                pairsCall(s, lane, i);
        }
    }

    private void pairsCall(int s, int lane, int i) {
        int p = person();
        int n = random.nextInt(3) > 0 ? 1 : upTo(11);
        int what = upTo(2);
        String told = "(" + p + ", " + s + ", " + lane + ", " + i + ", " + n + ", " + what + ")";
        if (random.nextBoolean()) {
            due("skills" + told, x.skills(p, s, lane, i, n, what), model.skills(p, s, lane, i, n, what));
        } else {
            due("kinds" + told, x.kinds(p, s, lane, i, n, what), model.kinds(p, s, lane, i, n, what));
        }
    }
}
