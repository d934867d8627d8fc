import java.util.ArrayList;
import java.util.List;
import java.util.Random;

/** Runs of calls drawn by fixed seeds, each answer compared with the Oracle's, as far as the document promises any. */
public final class RandomRunsTest {
    private static final int MOST_CALLS = 512;
    // What one draw of step, ask or lookAtAll takes at most.
    private static final int CALLS_OF_STEP = 30;
    private static final int CALLS_OF_ASK = 40;
    private static final int CALLS_OF_LOOK = 150;

    private static int wrong = 0;
    private static long calls = 0;
    private static final List<String> LOG = new ArrayList<>();

    private final Random random;
    private final GlassEyes eyes;
    private final Oracle oracle;
    private final int seed;
    private int callsOfRun = 0;
    private boolean bad = false;

    private RandomRunsTest(int seed) {
        this.seed = seed;
        random = new Random(seed);
        int courtiers = 1 + random.nextInt(6);
        if (seed % 17 == 0) {
            courtiers = random.nextInt(20) - 7;
        }
        eyes = new GlassEyes(courtiers);
        oracle = new Oracle(courtiers);
        LOG.clear();
        LOG.add("new GlassEyes(" + courtiers + ")");
    }

    private void same(String call, int got, int want) {
        calls++;
        callsOfRun++;
        LOG.add(call + " = " + got);
        if (callsOfRun > MOST_CALLS) {
            throw new IllegalStateException("seed " + seed + ": nothing is promised of the call " + callsOfRun);
        }
        if (got != want && !bad) {
            bad = true;
            wrong++;
            System.out.println("seed " + seed + ": " + call + " answered " + got + ", due is " + want);
            for (String row : LOG.subList(Math.max(0, LOG.size() - 40), LOG.size())) {
                System.out.println("    " + row);
            }
        }
    }

    private static int bit(boolean b) {
        return b ? 1 : 0;
    }

    /** Whether a draw of so many calls may come, so that all can be looked at once more behind it. */
    private boolean mayCome(int many) {
        return !bad && callsOfRun + many + CALLS_OF_LOOK <= MOST_CALLS;
    }

    /** Mostly within 0 .. most, now and then a little or far outside. */
    private int near(int most) {
        int dice = random.nextInt(40);
        if (dice == 0) {
            return -1;
        }
        if (dice == 1) {
            return most + 1;
        }
        if (dice == 2) {
            return random.nextInt();
        }
        if (dice == 3) {
            return random.nextInt(24) - 4;
        }
        return random.nextInt(most + 1);
    }

    private int nearEye() {
        return near(Math.max(0, oracle.about(2) - 1));
    }

    private int nearThing() {
        return near(Math.max(0, oracle.about(1) - 1));
    }

    private int nearWho() {
        return near(oracle.courtiers - 1);
    }

    private int nearText() {
        return near(Math.max(0, oracle.about(4) - 1));
    }

    private void feedText(String source) {
        same("end(0)", eyes.end(0), oracle.end(0));
        byte[] bytes = new byte[(source.length() + 19) / 20 * 20];
        for (int i = 0; i < source.length(); i++) {
            bytes[i] = (byte) source.charAt(i);
        }
        java.nio.ByteBuffer b = java.nio.ByteBuffer.wrap(bytes);
        while (b.remaining() >= 20) {
            int p = b.getInt();
            int q = b.getInt();
            int r = b.getInt();
            int s = b.getInt();
            int t = b.getInt();
            same("feed", eyes.feed(p, q, r, s, t), oracle.feed(p, q, r, s, t));
        }
        if (random.nextInt(10) == 0) {
            same("feed", eyes.feed(0, 0, 0, 0, 0), oracle.feed(0, 0, 0, 0, 0));
        }
        same("end(" + source.length() + ")", eyes.end(source.length()), oracle.end(source.length()));
        LOG.add("text is: " + source);
        same("text()", eyes.text(), oracle.text());
        same("fault(0)", eyes.fault(0), oracle.fault(0));
        same("fault(1)", eyes.fault(1), oracle.fault(1));
        same("about(8)", eyes.about(8), oracle.about(8));
    }

    private void step() {
        int a;
        int b;
        switch (random.nextInt(29)) {
            case 0: a = near(3); same("thing(" + a + ")", eyes.thing(a), oracle.thing(a)); break;
            case 1: a = near(3); boolean chip = random.nextBoolean();
                same("eye(" + a + ", " + chip + ")", eyes.eye(a, chip), oracle.eye(a, chip)); break;
            case 2: feedText(new Texts(random, oracle).any()); break;
            case 3: a = random.nextInt(4) == 0 ? -1 : nearText(); same("by(" + a + ")", bit(eyes.by(a)), bit(oracle.by(a))); break;
            case 4: case 5: case 6: case 7: case 8: case 9: case 10:
                a = nearThing(); b = nearWho();
                same("touch(" + a + ", " + b + ")", eyes.touch(a, b), oracle.touch(a, b)); break;
            case 11: case 12: case 13: case 14:
                a = nearEye(); b = nearWho();
                same("put(" + a + ", " + b + ")", bit(eyes.put(a, b)), bit(oracle.put(a, b))); break;
            case 15: a = nearEye(); same("put(" + a + ", -1)", bit(eyes.put(a, -1)), bit(oracle.put(a, -1))); break;
            case 16: a = nearEye(); b = nearEye();
                same("swap(" + a + ", " + b + ")", bit(eyes.swap(a, b)), bit(oracle.swap(a, b))); break;
            case 17: a = nearEye(); same("polish(" + a + ")", eyes.polish(a), oracle.polish(a)); break;
            case 18: case 19: a = nearText(); same("played(" + a + ")", eyes.played(a), oracle.played(a)); break;
            case 20: a = near(9999); b = random.nextInt(6) == 0 ? near(41) : 1 + random.nextInt(40);
                same("cat(" + a + ", " + b + ")", eyes.cat(a, b), oracle.cat(a, b)); break;
            case 21: case 22: same("undo()", eyes.undo(), oracle.undo()); break;
            case 23: case 24:
                if (random.nextInt(3) == 0) {
                    same("shown(-1)", eyes.shown(-1), oracle.shown(-1));
                }
                a = nearThing(); same("shown(" + a + ")", eyes.shown(a), oracle.shown(a)); break;
            case 25: showWhatIsKnown(); break;
            case 26: if (random.nextInt(3) == 0) { same("image()", eyes.image(), oracle.image()); } break;
            case 27: if (random.nextInt(3) == 0) { same("back()", eyes.back(), oracle.back()); } break;
            default: tape(); break;
        }
    }

    private void showWhatIsKnown() {
        same("shown(-1)", eyes.shown(-1), oracle.shown(-1));
        int e = nearEye();
        int skip = random.nextInt(3);
        for (int p = skip; p < 4 && oracle.of(e, p) >= 0; p++) {
            int thing = oracle.of(e, p);
            same("shown(" + thing + ")", eyes.shown(thing), oracle.shown(thing));
        }
    }

    private void tape() {
        int n = random.nextInt(330) - 15;
        same("end(" + n + ")", eyes.end(n), oracle.end(n));
        int w = random.nextInt();
        same("feed", eyes.feed(w, 1, -1, 0x20202020, w), oracle.feed(w, 1, -1, 0x20202020, w));
        same("about(8)", eyes.about(8), oracle.about(8));
        if (random.nextInt(4) == 0) {
            same("text()", eyes.text(), oracle.text());
        }
        int f = random.nextInt(5) - 1;
        same("fault(" + f + ")", eyes.fault(f), oracle.fault(f));
    }

    private void lookAtAll() {
        for (int what = -2; what < 30; what++) {
            same("about(" + what + ")", eyes.about(what), oracle.about(what));
        }
        for (int e = -1; e <= 8; e++) {
            for (int what = -1; what < 10; what++) {
                same("of(" + e + ", " + what + ")", eyes.of(e, what), oracle.of(e, what));
            }
        }
        for (int who = -1; who < 7; who++) {
            same("quarrel(" + who + ")", eyes.quarrel(who), oracle.quarrel(who));
        }
    }

    private void ask() {
        for (int set = -1; set < 17; set++) {
            same("verdict(" + set + ")", eyes.verdict(set), oracle.verdict(set));
        }
        int t = nearText();
        int e = nearEye();
        for (int p = -1; p < 5; p++) {
            same("told(" + t + ", " + e + ", " + p + ")", eyes.told(t, e, p), oracle.told(t, e, p));
        }
        for (int i = -2; i < 4; i++) {
            same("supper(" + t + ", " + e + ", " + i + ")", eyes.supper(t, e, i), oracle.supper(t, e, i));
        }
        int i = random.nextInt(30);
        same("supper(" + t + ", " + e + ", " + i + ")", eyes.supper(t, e, i), oracle.supper(t, e, i));
        boolean large = oracle.courtiers * oracle.about(1) > 18;
        int n = large && random.nextInt(12) != 0 ? random.nextInt(3) : random.nextInt(5) - (random.nextInt(5) == 0 ? 1 : 0);
        for (int what = large && n == 3 ? -1 - random.nextInt(2) : -3; what < 4; what += large && n == 3 ? 2 : 1) {
            same("how(" + e + ", " + n + ", " + what + ")", eyes.how(e, n, what), oracle.how(e, n, what));
        }
    }

    /** By a text of 24 touches, since there are fewer calls than hours. */
    private void goToALateHour() {
        int hour = 960 + random.nextInt(40);
        int thing = random.nextInt(Math.max(1, oracle.about(1)));
        int who = random.nextInt(oracle.courtiers);
        int text = oracle.about(4);
        feedText(("touch" + thing + "by" + who + ";").repeat(24));
        for (int i = 0; i < 42 && oracle.about(3) < hour; i++) {
            same("played(" + text + ")", eyes.played(text), oracle.played(text));
        }
    }

    private void run() {
        for (int i = random.nextInt(9); i > 0; i--) {
            int kind = random.nextInt(4);
            same("thing(" + kind + ")", eyes.thing(kind), oracle.thing(kind));
        }
        for (int i = random.nextInt(9); i > 0; i--) {
            int colour = random.nextInt(4);
            boolean chip = random.nextBoolean();
            same("eye(" + colour + ", " + chip + ")", eyes.eye(colour, chip), oracle.eye(colour, chip));
        }
        if (seed % 10 == 0) {
            goToALateHour();
        }
        for (int i = 0; i < 3 && seed % 5 != 0; i++) {
            feedText(new Texts(random, oracle).good());
        }
        if (seed % 3 != 0) {
            same("image()", eyes.image(), oracle.image());
        }
        while (mayCome(CALLS_OF_STEP)) {
            step();
            if (random.nextInt(40) == 0 && mayCome(CALLS_OF_LOOK)) {
                lookAtAll();
            }
            if (random.nextInt(12) == 0 && mayCome(CALLS_OF_ASK)) {
                ask();
            }
        }
        if (!bad) {
            lookAtAll();
        }
    }

    public static void main(String[] args) {
        int runs = args.length > 0 ? Integer.parseInt(args[0]) : 3000;
        for (int seed = 1; seed <= runs && wrong < 5; seed++) {
            new RandomRunsTest(seed).run();
        }
        System.out.println(runs + " runs, " + calls + " calls, " + wrong + " runs with a wrong answer");
        if (wrong != 0) {
            System.exit(1);
        }
    }
}
