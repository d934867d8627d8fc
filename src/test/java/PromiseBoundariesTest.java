/** The sentences of the promises 1 to 25 that name a boundary or a refused call, each with a test of its own. */
public final class PromiseBoundariesTest extends Bench {

    /** A court in which all is of use: a refused call has something to spoil. */
    private static GlassEyes busy() {
        GlassEyes g = court(3, 3, 3);
        read(g, "sees kind<3;rubs 2+eye;touch 1 by 0;");
        read(g, "touch 2 by 0;");
        g.by(0);
        g.put(0, 0);
        g.put(1, 0);
        g.touch(2, 0);
        g.image();
        g.touch(1, 0);
        g.swap(1, 2);
        g.shown(1);
        g.shown(2);
        read(g, "polish 8;");
        feedAll(g, "rubs who;");
        return g;
    }

    private static GlassEyes full() {
        GlassEyes g = court(6, 8, 8);
        for (int i = 0; i < 4; i++) {
            read(g, "rubs " + i + ";");
            g.shown(i);
        }
        for (int i = 0; i < 8; i++) {
            g.put(i, i / 2);
        }
        feedAll(g, "polish 1;x");
        return g;
    }

    private static GlassEyes atTheLastHour() {
        GlassEyes g = court(2, 2, 2);
        g.put(0, 0);
        touchTill(g, 999, 1, 0);
        return g;
    }

    // ---- 1 to 8: what is told

    private static void someCourtiers() {
        int[][] asked = {{DEEP, 1}, {-1, 1}, {0, 1}, {1, 1}, {2, 2}, {5, 5}, {6, 6}, {7, 6}, {FAR, 6}};
        for (int[] row : asked) {
            GlassEyes g = new GlassEyes(row[0]);
            due(row[0] + " courtiers", g.about(0), row[1]);
            due("the last of " + row[0], g.quarrel(row[1] - 1), 0);
            due("none behind the last of " + row[0], g.quarrel(row[1]), NONE);
        }
    }

    private static void newObject() {
        GlassEyes g = new GlassEyes(2);
        int[] first = {2, 0, 0, 0, 0, NONE, 0, 0, 0, -2, -2};
        for (int what = 0; what < first.length; what++) {
            due("about " + what, g.about(what), first[what]);
        }
        due("no thing", g.touch(0, 0), NONE);
        due("no eye", g.polish(0), NONE);
        due("no text", g.played(0), -2);
        due("no step", g.undo(), NONE);
    }

    private static void firstImage() {
        GlassEyes g = busy();
        due("hour", g.back(), 1);
        GlassEyes h = court(2, 8, 8);
        h.put(7, 1);
        touchTill(h, 50, 7, 1);
        h.by(0);
        h.shown(7);
        due("hour 0", h.back(), 0);
        int[] first = {2, 0, 0, 0, 0, NONE, 0, 0, 0, -2, -2};
        for (int what = 0; what < first.length; what++) {
            due("about " + what, h.about(what), first[what]);
        }
        due("an eye anew", h.eye(0, false), 0);
        where("it is new", h, 0, NONE, 0);
    }

    private static void refusedThings() {
        for (int kind : new int[] {-1, 4, 5, FAR, DEEP}) {
            refused("kind " + kind, PromiseBoundariesTest::busy, x -> x.thing(kind), NONE);
        }
        refused("a ninth", PromiseBoundariesTest::full, x -> x.thing(0), NONE);
        GlassEyes g = court(1, 7, 0);
        due("the eighth", g.thing(3), 7);
    }

    private static void refusedEyes() {
        for (int colour : new int[] {-1, 4, 5, FAR, DEEP}) {
            refused("colour " + colour, PromiseBoundariesTest::busy, x -> x.eye(colour, true), NONE);
        }
        refused("a ninth", PromiseBoundariesTest::full, x -> x.eye(0, false), NONE);
        GlassEyes g = court(1, 0, 7);
        due("the eighth", g.eye(3, true), 7);
    }

    private static void highestFirst() {
        GlassEyes g = new GlassEyes(1);
        // "polish 8;" would be a fault; "polish 7;" from the highest byte of a to the lowest of c.
        due("twenty", g.feed(0x706f6c69, 0x73682037, 0x3b202020, 0x20202020, 0x20202020), 20);
        due("a text", g.text(), 0);
        for (int place = 0; place < 20; place++) {
            int[] words = {0x20202020, 0x20202020, 0x20202020, 0x20202020, 0x20202020};
            words[place / 4] ^= (0x20 ^ 0xff) << 24 - 8 * (place % 4);
            GlassEyes h = new GlassEyes(1);
            h.feed(words[0], words[1], words[2], words[3], words[4]);
            h.text();
            due("byte " + place, h.fault(1), place);
        }
        GlassEyes behind = new GlassEyes(1);
        behind.feed(0x20202020, 0x20202020, 0x20202020, 0x20202020, 0x20202020);
        due("forty", behind.feed(-1, -1, -1, -1, -1), 40);
        behind.text();
        due("behind the tape", behind.fault(1), 20);
    }

    private static GlassEyes withTape(int bytes) {
        GlassEyes g = new GlassEyes(1);
        for (int i = 0; i < 15; i++) {
            g.feed(0x20202020, 0x20202020, 0x20202020, 0x20202020, 0x20202020);
        }
        g.end(bytes);
        return g;
    }

    private static void moreThanThreeHundred() {
        due("280 and 20", withTape(280).feed(0, 0, 0, 0, 0), 300);
        due("279 and 20", withTape(279).feed(0, 0, 0, 0, 0), 299);
        for (int bytes : new int[] {281, 299, 300}) {
            refused(bytes + " and 20", () -> withTape(bytes), x -> x.feed(-1, -1, -1, -1, -1), NONE);
        }
        due("300 blanks are a text", withTape(300).text(), 0);
    }

    private static void firstBytesAlone() {
        for (int n : new int[] {-1, DEEP, 10, 11, FAR}) {
            refused("the first " + n + " of 9", PromiseBoundariesTest::busy, x -> x.end(n), NONE);
        }
        GlassEyes g = busy();
        due("all nine", g.end(9), 9);
        due("eight", g.end(8), 8);
        due("eight are there", g.about(8), 8);
        due("not nine any more", g.end(9), NONE);
        due("none", g.end(0), 0);
        due("none is there", g.about(8), 0);
        due("one of none", g.end(1), NONE);
        due("none of none", g.end(0), 0);
        due("what was cut off doesn't come again", g.feed(0x20202020, 0x20202020, 0x20202020, 0x20202020, 0x20202020), 20);
        due("blanks alone", g.text(), 2);
        due("300", withTape(300).end(300), 300);
        due("301", withTape(300).end(301), NONE);
    }

    private static void emptyThen() {
        GlassEyes g = new GlassEyes(1);
        due("an empty tape", g.text(), 0);
        feedAll(g, "polish 1;");
        due("a tape of nine", g.text(), 1);
        due("empty then", g.about(8), 0);
        due("the next is an empty one", g.text(), 2);
        feedAll(g, "polish 1;");
        due("the fourth", g.text(), 3);
        due("empty then", g.about(8), 0);
    }

    private static void withAFault() {
        GlassEyes g = new GlassEyes(1);
        due("a fault", read(g, "polish 8;"), NONE);
        due("no text", g.about(4), 0);
        due("the tape is empty", g.about(8), 0);
        due("a fault at the end", read(g, "polish 1"), NONE);
        due("the next has the number", read(g, "polish 1;"), 0);
        GlassEyes h = court(1, 1, 1);
        read(h, "rubs 9;sees 1=2;" + times(22, "touch0by0;") + "!");
        due("what was read ahead of the fault is gone", read(h, "touch0by0;"), 0);
        due("one clause alone", h.played(0), NONE);
        due("one touch alone", h.about(3), 1);
        h.by(0);
        due("no rubs", h.of(0, 8), 1);
        h.put(0, 0);
        due("no sees", h.touch(0, 0), 1);
        read(h, times(24, "touch0by0;") + "!");
        due("24 behind a fault", read(h, times(24, "touch0by0;")), 1);
        for (int i = 0; i < 3; i++) {
            due("a long law with a fault", read(h, "rubs 0" + times(140, "+1") + "!"), NONE);
        }
        due("a long law", read(h, "rubs 0" + times(140, "+1") + "-50;"), 2);
        h.by(2);
        due("is whole", h.of(0, 8), 90);
    }

    private static void thereAreFour() {
        refused("a fifth with a fault", PromiseBoundariesTest::full, x -> x.text(), NONE);
        GlassEyes g = full();
        g.text();
        due("the tape stays", g.about(8), 10);
        due("the fault is that of the fourth", g.fault(0), 0);
        due("four", g.about(4), 4);
        g.back();
        due("in a court without texts it is read", g.text(), NONE);
        due("and has its fault", g.fault(0) * 100 + g.fault(1), 109);
    }

    private static void latestRead() {
        GlassEyes g = new GlassEyes(1);
        due("ahead of any, 0", g.fault(0), NONE);
        due("ahead of any, 1", g.fault(1), NONE);
        read(g, "");
        due("without, 0", g.fault(0), 0);
        due("without, 1", g.fault(1), NONE);
        read(g, ";");
        due("at the first byte, 0", g.fault(0), 1);
        due("at the first byte, 1", g.fault(1), 0);
        for (int what : new int[] {-1, 2, 3, FAR, DEEP}) {
            due("what " + what, g.fault(what), NONE);
        }
        read(g, " 1");
        due("another", g.fault(1), 1);
        read(g, "");
        due("without again, 0", g.fault(0), 0);
        due("without again, 1", g.fault(1), NONE);
    }

    private static void refusedLaws() {
        for (int text : new int[] {-2, 2, 3, 4, FAR, DEEP}) {
            refused("text " + text, PromiseBoundariesTest::busy, x -> bit(x.by(text)), 0);
        }
        GlassEyes g = busy();
        due("the last", g.by(1), true);
        due("it rules", g.about(5), 1);
        due("none", g.by(NONE), true);
        due("none rules", g.about(5), NONE);
        due("none again", g.by(NONE), true);
        due("of no texts", new GlassEyes(1).by(0), false);
        due("of no texts, none", new GlassEyes(1).by(NONE), true);
    }

    private static void whatIsTold() {
        sentence("So many COURTIERS (1 to 6; others: the nearest of these)", PromiseBoundariesTest::someCourtiers);
        sentence("no THINGS, no EYES;", PromiseBoundariesTest::newObject);
        sentence("THE IMAGE is this.", PromiseBoundariesTest::firstImage);
        sentence("A THING: its number. NONE for others, or if there are 8.", PromiseBoundariesTest::refusedThings);
        sentence("An EYE: its number. NONE for others, or if there are 8.", PromiseBoundariesTest::refusedEyes);
        sentence("Twenty bytes come behind the tape, the highest of a first: how many it has.",
                PromiseBoundariesTest::highestFirst);
        sentence("NONE, and none come, if there would be more than 300.", PromiseBoundariesTest::moreThanThreeHundred);
        sentence("The tape has its first n bytes alone: n. NONE, and nothing is done, if it has not so many, or n is"
                + " below 0.", PromiseBoundariesTest::firstBytesAlone);
        sentence("The tape (empty then) is a TEXT: its number.", PromiseBoundariesTest::emptyThen);
        sentence("NONE: it has a FAULT;", PromiseBoundariesTest::withAFault);
        sentence("or (the tape stays) there are 4.", PromiseBoundariesTest::thereAreFour);
        sentence("Of the latest text that was read: 0 its FAULT (0 without), 1 its place (NONE without). NONE for"
                + " others, and ahead of any.", PromiseBoundariesTest::latestRead);
        sentence("THE TEXT (NONE: none): true. False for others.", PromiseBoundariesTest::refusedLaws);
    }

    // ---- 9 to 15: what is done

    private static void refusedTouches() {
        int[][] others = {{-1, 0}, {3, 0}, {0, -1}, {0, 3}, {FAR, 0}, {DEEP, 0}, {0, FAR}, {0, DEEP}};
        for (int[] o : others) {
            refused("touch of " + o[0] + " by " + o[1], PromiseBoundariesTest::busy, x -> x.touch(o[0], o[1]), NONE);
        }
        due("the last of each", busy().touch(2, 2), 0);
        refused("at the last hour", PromiseBoundariesTest::atTheLastHour, x -> x.touch(0, 0), NONE);
        GlassEyes g = atTheLastHour();
        g.undo();
        due("an hour ahead of it", g.touch(0, 0), 1);
        due("the last hour", g.about(3), 999);
    }

    private static void refusedPuts() {
        int[][] others = {{-1, 1}, {3, 1}, {0, -2}, {0, 3}, {FAR, 1}, {DEEP, NONE}, {0, FAR}, {0, DEEP}};
        for (int[] o : others) {
            refused("eye " + o[0] + " for " + o[1], PromiseBoundariesTest::busy, x -> bit(x.put(o[0], o[1])), 0);
        }
        refused("where it is", PromiseBoundariesTest::busy, x -> bit(x.put(0, 0)), 0);
        refused("in the drawer, where it is", PromiseBoundariesTest::busy, x -> bit(x.put(1, NONE)), 0);
        refused("for one who wears two", PromiseBoundariesTest::busy, x -> bit(x.put(1, 0)), 0);
        refused("from one who wears two to another", PromiseBoundariesTest::full, x -> bit(x.put(0, 1)), 0);
        GlassEyes g = busy();
        due("to the drawer", g.put(0, NONE), true);
        due("for one who wears one", g.put(1, 0), true);
        due("for one who wears none", g.put(0, 2), true);
    }

    private static void refusedSwaps() {
        int[][] others = {{-1, 0}, {0, -1}, {3, 0}, {0, 3}, {FAR, 0}, {0, DEEP}, {0, 0}, {2, 2}, {3, 3}, {-1, -1}};
        for (int[] o : others) {
            refused("swap " + o[0] + " with " + o[1], PromiseBoundariesTest::busy, x -> bit(x.swap(o[0], o[1])), 0);
        }
        due("the first and the last", busy().swap(0, 2), true);
        due("the last and the first", busy().swap(2, 0), true);
        due("at the last hour", atTheLastHour().swap(0, 1), true);
    }

    private static void refusedPolish() {
        for (int eye : new int[] {-1, 3, 8, FAR, DEEP}) {
            refused("eye " + eye, PromiseBoundariesTest::busy, x -> x.polish(eye), NONE);
        }
        GlassEyes g = atTheLastHour();
        due("four", g.polish(0), 4);
        due("none", g.polish(0), 0);
        due("none, of the last", g.polish(1), 0);
    }

    private static void refusedPlays() {
        for (int text : new int[] {-1, -2, 2, 4, FAR, DEEP}) {
            refused("text " + text, PromiseBoundariesTest::busy, x -> x.played(text), -2);
        }
        GlassEyes g = busy();
        due("the first", g.played(0), NONE);
        due("the last", g.played(1), NONE);
        GlassEyes late = atTheLastHour();
        due("the first clause can't be", late.played(0), 0);
        due("nothing was done", late.about(3), 999);
    }

    private static void refusedCats() {
        int[][] others = {{-1, 1}, {10000, 1}, {0, 0}, {0, 41}, {0, -1}, {FAR, 1}, {DEEP, 1}, {0, FAR}, {0, DEEP}};
        for (int[] o : others) {
            refused("cat " + o[0] + ", " + o[1], PromiseBoundariesTest::busy, x -> x.cat(o[0], o[1]), NONE);
        }
        refused("without eyes", () -> court(2, 2, 0), x -> x.cat(0, 1), NONE);
        due("with one eye", court(2, 2, 1).cat(0, 1), 0);
        due("the highest of both", court(2, 2, 1).cat(9999, 40), 0);
    }

    private static void noStepLeft() {
        refused("a new court", () -> court(2, 2, 2), x -> x.undo(), NONE);
        GlassEyes g = court(1, 1, 1);
        g.put(0, 0);
        due("the only one", g.undo(), 0);
        due("there is none", g.undo(), NONE);
        due("there is none again", g.undo(), NONE);
        GlassEyes far = atTheLastHour();
        due("thirty of more", far.about(6), 30);
        for (int i = 29; i >= 0; i--) {
            due("yet", far.undo(), i);
        }
        due("none beyond", far.undo(), NONE);
        due("thirty hours ahead", far.about(3), 969);
    }

    private static void whatIsDone() {
        sentence("A TOUCH: how many EYES see it. NONE for others, and at HOUR 999.", PromiseBoundariesTest::refusedTouches);
        sentence("PUT IN (who NONE: THE DRAWER): true. False for others, if it is there, or who wears two.",
                PromiseBoundariesTest::refusedPuts);
        sentence("SWAPPED: true. False for others, and for one and the same.", PromiseBoundariesTest::refusedSwaps);
        sentence("POLISHED: how much it KNEW. NONE for others.", PromiseBoundariesTest::refusedPolish);
        sentence("PLAYED by a TEXT: NONE: all is done; else the number of the CLAUSE that can't be. -2 for others.",
                PromiseBoundariesTest::refusedPlays);
        sentence("A CAT: how many times two were SWAPPED. NONE for others, and without EYES.",
                PromiseBoundariesTest::refusedCats);
        sentence("The latest STEP is taken back: how many can be yet. NONE: there is none.",
                PromiseBoundariesTest::noStepLeft);
    }

    // ---- 16 to 25: what is asked

    private static void othersOfEyes() {
        int[][] others = {{-1, 0}, {3, 0}, {0, -1}, {0, 9}, {FAR, 0}, {DEEP, 8}, {0, FAR}, {0, DEEP}, {3, 8}};
        for (int[] o : others) {
            refused("of " + o[0] + ", " + o[1], PromiseBoundariesTest::busy, x -> x.of(o[0], o[1]), -2);
        }
        GlassEyes g = busy();
        int[] first = {1, 2, NONE, NONE, 0, 0, 0, 0, 2};
        int[] last = {NONE, NONE, NONE, NONE, 0, 2, 2, 0, 4};
        for (int what = 0; what <= 8; what++) {
            due("of the first, " + what, g.of(0, what), first[what]);
            due("of the last, " + what, g.of(2, what), last[what]);
        }
        due("of the eighth", full().of(7, 4), 3);
        due("without eyes", new GlassEyes(1).of(0, 0), -2);
    }

    private static void othersOfStories() {
        int[][] others = {{-1, 0, 0}, {2, 0, 0}, {0, -1, 0}, {0, 3, 0}, {0, 0, -1}, {0, 0, 4}, {FAR, 0, 0}, {0, FAR, 0},
            {0, 0, FAR}, {DEEP, 0, 0}, {0, DEEP, 0}, {0, 0, DEEP}};
        for (int[] o : others) {
            refused("told " + o[0] + ", " + o[1] + ", " + o[2], PromiseBoundariesTest::busy,
                    x -> x.told(o[0], o[1], o[2]), -2);
        }
        GlassEyes g = busy();
        g.by(NONE);
        int[] due = {2, 1, 2, NONE};
        for (int place = 0; place < 4; place++) {
            due("the last text, place " + place, g.told(1, 0, place), due[place]);
        }
        due("the last eye", g.told(1, 2, 0), 2);
    }

    private static void verdictOfFew() {
        due("of none, without texts", new GlassEyes(1).verdict(0), 0);
        GlassEyes g = busy();
        due("of none", g.verdict(0), 0);
        due("of the first", g.verdict(1), 0);
        due("of the last", g.verdict(2), 0);
        due("of both", g.verdict(3), 1);
        due("of the fourth alone", full().verdict(8), 0);
    }

    private static void verdictOfOthers() {
        for (int texts : new int[] {4, 5, 7, 8, 15, 16, 32, -1, -4, FAR, DEEP, DEEP + 1}) {
            refused("of " + texts, PromiseBoundariesTest::busy, x -> x.verdict(texts), NONE);
        }
        due("of four that are alike", full().verdict(15), NONE);
        due("of 16", full().verdict(16), NONE);
        due("of one that is none", new GlassEyes(1).verdict(1), NONE);
    }

    private static void quarrelOfOthers() {
        for (int who : new int[] {-1, 3, 5, 6, FAR, DEEP}) {
            refused("of " + who, PromiseBoundariesTest::busy, x -> x.quarrel(who), NONE);
        }
        GlassEyes g = busy();
        due("of the first", g.quarrel(0), 2);
        due("of the last", g.quarrel(2), 0);
        due("of the sixth", full().quarrel(5), 0);
    }

    private static void refusedShown() {
        for (int thing : new int[] {-2, 3, 7, 8, FAR, DEEP}) {
            refused("thing " + thing, PromiseBoundariesTest::busy, x -> x.shown(thing), -2);
        }
        refused("a fifth", PromiseBoundariesTest::full, x -> x.shown(0), -2);
        GlassEyes g = busy();
        due("the third", g.shown(0), 3);
        due("the fourth", g.shown(2), 4);
        due("the fifth", g.shown(2), -2);
        due("none any more", g.shown(NONE), 0);
        due("none", g.about(7), 0);
        due("none again", g.shown(NONE), 0);
        due("the first anew", g.shown(2), 1);
        g.polish(0);
        g.by(NONE);
        g.touch(2, 0);
        due("what was shown ahead of that is gone", g.how(0, 0, NONE), 1);
        due("without things", new GlassEyes(1).shown(0), -2);
    }

    private static void othersOfHow() {
        int[][] others = {{-1, 1, NONE}, {3, 1, NONE}, {0, -1, NONE}, {0, 4, NONE}, {0, 1, -3}, {0, 1, 1}, {0, 0, 0},
            {0, 3, 3}, {FAR, 1, 0}, {0, FAR, 0}, {0, 1, FAR}, {DEEP, 1, 0}, {0, DEEP, 0}, {0, 1, DEEP}, {3, 0, -2},
            {0, -1, -2}, {0, 4, -2}, {0, 4, 0}};
        for (int[] o : others) {
            refused("how " + o[0] + ", " + o[1] + ", " + o[2], PromiseBoundariesTest::busy,
                    x -> x.how(o[0], o[1], o[2]), -3);
        }
        GlassEyes g = busy();
        due("just so now", g.how(0, 0, NONE), 1);
        due("by three touches of the others", g.how(0, 3, NONE) >= 216, true);
        due("the third of the first row", g.how(0, 3, 2), 8);
        due("no rows: none", g.how(2, 1, NONE), 0);
        due("no rows: nobody", g.how(2, 1, -2), 0);
        due("no rows: no touch", g.how(2, 1, 0), -3);
    }

    private static void othersOfSupper() {
        int[][] others = {{-1, 0, NONE}, {2, 0, NONE}, {0, -1, NONE}, {0, 3, NONE}, {0, 0, -2}, {0, 0, 28}, {0, 0, 99},
            {FAR, 0, NONE}, {0, FAR, NONE}, {0, 0, FAR}, {DEEP, 0, NONE}, {0, DEEP, NONE}, {0, 0, DEEP}};
        for (int[] o : others) {
            refused("supper " + o[0] + ", " + o[1] + ", " + o[2], PromiseBoundariesTest::busy,
                    x -> x.supper(o[0], o[1], o[2]), NONE);
        }
        GlassEyes g = busy();
        // Story 0 is seen by who sits with courtier 0: eye 0 is as shown if it was put in the drawer.
        due("eye 0 was swapped with eye 1", g.supper(0, 0, NONE), 1);
        due("that two", g.supper(0, 0, 0), 1);
        due("no second", g.supper(0, 0, 1), NONE);
        due("eye 2 never", g.supper(0, 2, NONE), 0);
        due("not the first", g.supper(0, 2, 0), NONE);
    }

    private static void imageAndBack() {
        due("the first hour", new GlassEyes(1).image(), 0);
        due("back to the first hour", new GlassEyes(1).back(), 0);
        GlassEyes g = atTheLastHour();
        due("the last hour", g.image(), 999);
        g.undo();
        due("back to the last hour", g.back(), 999);
        due("refused there", g.touch(0, 0), NONE);
        g.undo();
        due("another image", g.image(), 998);
        g.touch(0, 0);
        due("back to that", g.back(), 998);
    }

    private static void imageStays() {
        GlassEyes g = busy();
        for (int i = 0; i < 3; i++) {
            due("back", g.back(), 1);
            due("steps", g.about(6), 3);
            knows("as it was", g, 0, 2);
            due("shown", g.about(7), 0);
            g.undo();
            g.undo();
            g.polish(0);
            g.shown(0);
            g.by(1);
        }
    }

    private static void othersOfAll() {
        for (int what : new int[] {-1, -2, 9, 13, 14, 17, 18, 19, 23, 24, 25, 26, 30, 100, FAR, DEEP}) {
            refused("about " + what, PromiseBoundariesTest::busy, x -> x.about(what), -2);
        }
        GlassEyes g = busy();
        int[] first = {3, 3, 3, 2, 2, 0, 5, 2, 9};
        for (int what = 0; what < first.length; what++) {
            due("about " + what, g.about(what), first[what]);
        }
        due("the first and the last thing", g.about(10) * 10 + g.about(12), 2);
        due("the first and the last courtier", g.about(20) * 10 + g.about(22), 50);
        GlassEyes all = full();
        due("the eighth thing", all.about(17), 3);
        due("18", all.about(18), -2);
        due("the fourth courtier", all.about(23), 192);
        due("the sixth courtier", all.about(25), 0);
        due("26", all.about(26), -2);
        due("none at first: the text", new GlassEyes(1).about(5), NONE);
    }

    private static void lastOfAllCalls() {
        GlassEyes g = court(6, 8, 8);
        g.put(0, 0);
        // 8 things, 8 eyes and the putting in were 17 calls; 494 more leave one.
        for (int i = 0; i < 494; i++) {
            switch (i % 6) {
                case 0: g.how(0, 3, NONE); break;
                case 1: g.cat(i, 40); break;
                case 2: g.touch(i % 8, i % 5); break;
                case 3: g.feed(i, i, i, i, i); break;
                case 4: g.text(); break;
                default: g.image(); break;
            }
        }
        due("the 512th", g.about(3), 82);
    }

    private static void whatIsAsked() {
        sentence("8 RUBS. -2 for others.", PromiseBoundariesTest::othersOfEyes);
        sentence("What an EYE would KNOW at a place (0 .. 3) behind a STORY. -2 for others.",
                PromiseBoundariesTest::othersOfStories);
        sentence("VERDICT: the EYES (bits; 0 of one STORY, or of none).", PromiseBoundariesTest::verdictOfFew);
        sentence("NONE: none, and for others.", PromiseBoundariesTest::verdictOfOthers);
        sentence("QUARREL. NONE for others.", PromiseBoundariesTest::quarrelOfOthers);
        sentence("SHOWN: one THING more (NONE: nothing is SHOWN any more): how many there are. -2 for others, or if there"
                + " are 4.", PromiseBoundariesTest::refusedShown);
        sentence("HOW: how many rows (what NONE), SURE (-2); of the first row the TOUCH what (0 ..). -3 if there is none"
                + " such, and for others.", PromiseBoundariesTest::othersOfHow);
        sentence("SUPPER: how many twos (i NONE), the i-th. NONE if there is none such, and for others.",
                PromiseBoundariesTest::othersOfSupper);
        sentence("THE IMAGE is as all is now: HOUR.", PromiseBoundariesTest::imageAndBack);
        sentence("BACK to THE IMAGE (it stays): HOUR.", PromiseBoundariesTest::imageStays);
        sentence("10 + thing: its KIND, 20 + who: EYES they wear (bits). -2 for others.", PromiseBoundariesTest::othersOfAll);
        sentence("An object is used for at most 512 calls after it has been made;", PromiseBoundariesTest::lastOfAllCalls);
    }

    public static void main(String[] args) {
        whatIsTold();
        whatIsDone();
        whatIsAsked();
        finish();
    }
}
