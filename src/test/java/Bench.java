import java.io.IOException;
import java.nio.file.Files;
import java.nio.file.Path;
import java.util.function.Supplier;
import java.util.function.ToIntFunction;

/** What the tests share: counting what is due, courts to begin with, texts by the tape. */
abstract class Bench {
    static final int NONE = GlassEyes.NONE;
    static final int FAR = Integer.MAX_VALUE;
    static final int DEEP = Integer.MIN_VALUE;

    private static int wrong = 0;
    private static int done = 0;
    private static int sentences = 0;
    private static String document = null;

    interface Check {
        void run();
    }

    static void due(String what, int got, int want) {
        done++;
        if (got != want) {
            wrong++;
            System.out.println(what + ": answered " + got + ", due is " + want);
        }
    }

    static void due(String what, boolean got, boolean want) {
        due(what, got ? 1 : 0, want ? 1 : 0);
    }

    /** The test of one sentence; its words have to stand in the document, lest it tests what nobody promised. */
    static void sentence(String words, Check check) {
        sentences++;
        if (document == null) {
            document = readDocument();
        }
        if (!document.isEmpty() && !document.contains(words)) {
            wrong++;
            System.out.println("the document doesn't say: " + words);
        }
        int before = wrong;
        check.run();
        if (wrong > before) {
            System.out.println("    so this is broken: " + words);
        }
    }

    private static String readDocument() {
        try {
            return Files.readString(Path.of("../shared/DOC.md")).replaceAll("\\s+", " ");
        } catch (IOException e) {
            System.out.println("../shared/DOC.md is not there: the sentences are not looked up in it");
            return "";
        }
    }

    static void finish() {
        String of = sentences == 0 ? "" : " of " + sentences + " sentences";
        System.out.println(done + " answers" + of + ", " + wrong + " not as due");
        if (wrong != 0) {
            System.exit(1);
        }
    }

    // ---- texts

    static void feedAll(GlassEyes g, String source) {
        g.end(0);
        for (int i = 0; i < source.length(); i += 20) {
            int[] words = new int[5];
            for (int k = 0; k < 20; k++) {
                int sign = i + k < source.length() ? source.charAt(i + k) : 0;
                words[k / 4] |= sign << 24 - 8 * (k % 4);
            }
            g.feed(words[0], words[1], words[2], words[3], words[4]);
        }
        g.end(source.length());
    }

    static int read(GlassEyes g, String source) {
        feedAll(g, source);
        return g.text();
    }

    static void good(String source) {
        GlassEyes g = new GlassEyes(1);
        due("text of: " + source, read(g, source), 0);
        due("fault(0) of: " + source, g.fault(0), 0);
        due("fault(1) of: " + source, g.fault(1), NONE);
    }

    static void bad(String source, int what, int place) {
        GlassEyes g = new GlassEyes(1);
        due("text of: " + source, read(g, source), NONE);
        due("fault(0) of: " + source, g.fault(0), what);
        due("fault(1) of: " + source, g.fault(1), place);
        due("texts behind: " + source, g.about(4), 0);
    }

    static String times(int n, String part) {
        return part.repeat(n);
    }

    /** What a sum is, as the RUBS of an eye 0 .. 99, by a text that rules. */
    static int rubs(String sum) {
        GlassEyes g = court(1, 0, 1);
        if (read(g, "rubs " + sum + ";") != 0 || !g.by(0)) {
            return -99;
        }
        return g.of(0, 8);
    }

    /** Whether an eye sees a touch by a condition. */
    static int sees(String either) {
        GlassEyes g = court(1, 1, 1);
        if (read(g, "sees " + either + ";") != 0 || !g.by(0) || !g.put(0, 0)) {
            return -99;
        }
        return g.touch(0, 0);
    }

    // ---- courts

    /** So many courtiers, things (kind: number mod 4) and eyes (colour: number mod 4, none chipped). */
    static GlassEyes court(int courtiers, int things, int eyes) {
        GlassEyes g = new GlassEyes(courtiers);
        for (int i = 0; i < things; i++) {
            g.thing(i % 4);
        }
        for (int i = 0; i < eyes; i++) {
            g.eye(i % 4, false);
        }
        return g;
    }

    /** Touches till an hour, by a text of 24 touches: an object has 512 calls, fewer than there are hours. */
    static void touchTill(GlassEyes g, int hour, int thing, int who) {
        int text = read(g, times(24, "touch" + thing + "by" + who + ";"));
        while (g.about(3) + 24 <= hour && g.played(text) == NONE) {
            continue;
        }
        while (g.about(3) < hour && g.touch(thing, who) != NONE) {
            continue;
        }
        due("the hour", g.about(3), hour);
    }

    static void knows(String what, GlassEyes g, int eye, int... things) {
        for (int place = 0; place < 4; place++) {
            due(what + ", eye " + eye + " place " + place, g.of(eye, place), place < things.length ? things[place] : NONE);
        }
    }

    static void where(String what, GlassEyes g, int eye, int who, int since) {
        due(what + ", eye " + eye + " is worn", g.of(eye, 4), who);
        due(what + ", eye " + eye + " is so since", g.of(eye, 5), since);
    }

    // ---- calls that are refused

    /** All that can be seen of an object by some 250 calls, the steps and the tape too (which are used up by that). */
    static String trace(GlassEyes g) {
        StringBuilder b = new StringBuilder();
        b.append(g.fault(0)).append(' ').append(g.fault(1));
        for (int what = 0; what <= 25; what++) {
            b.append(' ').append(g.about(what));
        }
        for (int eye = 0; eye < g.about(2); eye++) {
            for (int what = 0; what <= 8; what++) {
                b.append(' ').append(g.of(eye, what));
            }
            b.append(' ').append(g.how(eye, 0, NONE)).append(' ').append(g.told(0, eye, 0));
        }
        int left = g.about(6);
        while (left > 0) {
            left = g.undo();
            b.append(' ').append(left).append(' ').append(g.about(3)).append(' ').append(g.about(20));
        }
        b.append(' ').append(g.text()).append(' ').append(g.fault(0)).append(' ').append(g.fault(1));
        return b.append(' ').append(g.back()).append(' ').append(g.about(2)).toString();
    }

    /** A call that is answered so and leaves all as it is. */
    static void refused(String what, Supplier<GlassEyes> from, ToIntFunction<GlassEyes> call, int answer) {
        GlassEyes g = from.get();
        due(what, call.applyAsInt(g), answer);
        due(what + ": nothing is changed", trace(g).equals(trace(from.get())), true);
    }

    static int bit(boolean is) {
        return is ? 1 : 0;
    }
}
