/** The sentences of the parts I, III and IV of the Terms that name a boundary, each with a test of its own. */
public final class TermsBoundariesTest extends Bench {

    // ---- I. The court

    private static void courtiers() {
        for (int many = 1; many <= 6; many++) {
            GlassEyes g = court(many, 1, 1);
            due("the first of " + many, g.touch(0, 0), 0);
            due("the last of " + many, g.touch(0, many - 1), 0);
            due("one behind the last of " + many, g.touch(0, many), NONE);
            due("put in for one behind the last of " + many, g.put(0, many), false);
            due("put in for the last of " + many, g.put(0, many - 1), true);
        }
    }

    private static void things() {
        GlassEyes g = new GlassEyes(1);
        for (int i = 0; i < 8; i++) {
            due("not told yet " + i, g.touch(i, 0), NONE);
            due("not shown yet " + i, g.shown(i), -2);
            due("told " + i, g.thing(i % 4), i);
            due("it can be touched " + i, g.touch(i, 0), 0);
        }
        due("no ninth", g.thing(0), NONE);
        due("8 is none", g.touch(8, 0), NONE);
        due("they are 8", g.about(1), 8);
    }

    private static void kinds() {
        GlassEyes g = new GlassEyes(1);
        due("kind -1", g.thing(-1), NONE);
        due("kind 4", g.thing(4), NONE);
        due("kind 0", g.thing(0), 0);
        due("kind 3", g.thing(3), 1);
        due("is 0", g.about(10), 0);
        due("is 3", g.about(11), 3);
    }

    private static void eyes() {
        GlassEyes g = new GlassEyes(6);
        for (int i = 0; i < 8; i++) {
            due("not told yet " + i, g.polish(i), NONE);
            due("told " + i, g.eye(i % 4, false), i);
            due("it can be polished " + i, g.polish(i), 0);
            due("and put in " + i, g.put(i, i / 2), true);
        }
        due("no ninth", g.eye(0, false), NONE);
        due("8 is none", g.polish(8), NONE);
        due("they are 8", g.about(2), 8);
    }

    private static void colours() {
        GlassEyes g = new GlassEyes(1);
        due("colour -1", g.eye(-1, false), NONE);
        due("colour 4", g.eye(4, false), NONE);
        due("colour 0", g.eye(0, true), 0);
        due("colour 3", g.eye(3, false), 1);
        due("is 0", g.of(0, 6), 0);
        due("is 3", g.of(1, 6), 3);
        due("chipped", g.of(0, 7), 1);
        due("not chipped", g.of(1, 7), 0);
    }

    private static void inTheDrawerAtFirst() {
        GlassEyes g = court(2, 1, 1);
        where("at first", g, 0, NONE, 0);
        touchTill(g, 999, 0, 0);
        g.eye(0, false);
        where("told at the last hour", g, 1, NONE, 0);
        due("it can't be put where it is", g.put(1, NONE), false);
    }

    private static void nothingKnownAtFirst() {
        GlassEyes g = court(1, 1, 1);
        knows("at first", g, 0);
        g.touch(0, 0);
        knows("in the drawer it sees nothing", g, 0);
        g.eye(0, true);
        knows("told later", g, 1);
        due("polished, it knew nothing", g.polish(1), 0);
    }

    private static void fourKnown() {
        GlassEyes g = court(1, 5, 1);
        g.put(0, 0);
        g.touch(0, 0);
        knows("one", g, 0, 0);
        g.touch(1, 0);
        knows("two", g, 0, 1, 0);
        g.touch(2, 0);
        knows("three", g, 0, 2, 1, 0);
        g.touch(3, 0);
        knows("four", g, 0, 3, 2, 1, 0);
        g.touch(4, 0);
        knows("four yet", g, 0, 4, 3, 2, 1);
        due("four, not five", g.polish(0), 4);
    }

    private static void twoWorn() {
        GlassEyes g = court(2, 1, 4);
        due("the first", g.put(0, 0), true);
        due("the second", g.put(1, 0), true);
        due("the third", g.put(2, 0), false);
        due("by swapping", g.swap(1, 2), true);
        due("are two yet", g.about(20), 5);
        due("the third behind that", g.put(1, 0), false);
        due("one goes to another", g.put(0, 1), true);
        due("there is room", g.put(1, 0), true);
        due("no room again", g.put(3, 0), false);
        due("one goes to the drawer", g.put(2, NONE), true);
        due("there is room again", g.put(3, 0), true);
        due("the other has room for one", g.put(2, 1), true);
        g.undo();
        due("taken back, it has room", g.put(2, 1), true);
        due("two each", g.about(20) * 100 + g.about(21), 1005);
    }

    private static void hours() {
        GlassEyes g = court(1, 1, 1);
        due("at first", g.about(3), 0);
        g.put(0, 0);
        touchTill(g, 998, 0, 0);
        due("to the last", g.touch(0, 0), 1);
        due("the last", g.about(3), 999);
        due("beyond", g.touch(0, 0), NONE);
        due("it stays", g.about(3), 999);
    }

    private static void oneHourMore() {
        GlassEyes g = court(2, 1, 2);
        g.touch(0, 0);
        due("nobody sees it", g.about(3), 1);
        g.put(0, 0);
        g.put(1, 0);
        due("putting in takes none", g.about(3), 1);
        due("two see it", g.touch(0, 0), 2);
        due("one hour for two eyes", g.about(3), 2);
        g.swap(0, 1);
        g.polish(0);
        g.cat(0, 40);
        due("swapping, polishing and a cat take none", g.about(3), 2);
    }

    private static void seenByLaw() {
        GlassEyes g = court(2, 1, 3);
        g.put(0, 0);
        g.put(1, 1);
        due("without a text", g.touch(0, 0), 1);
        read(g, "rubs 1;");
        read(g, "sees 1 = 1;");
        read(g, "sees eye = 2;");
        g.by(0);
        due("by a text without sees", g.touch(0, 0), 1);
        g.by(1);
        due("it is so", g.touch(0, 0), 1);
        g.by(2);
        due("it isn't", g.touch(0, 0), 0);
        due("the hour went on", g.about(3), 4);
        knows("by three", g, 0, 0, 0, 0);
        knows("not those of another", g, 1);
        knows("not those in the drawer", g, 2);
    }

    private static void fifthForgotten() {
        GlassEyes g = court(1, 6, 1);
        g.put(0, 0);
        for (int i = 0; i < 3; i++) {
            g.touch(i, 0);
        }
        g.touch(3, 0);
        due("the fourth is kept", g.of(0, 3), 0);
        g.touch(4, 0);
        due("the fifth is gone", g.of(0, 3), 1);
        g.touch(4, 0);
        knows("a like one counts too", g, 0, 4, 4, 3, 2);
    }

    private static void twiceIfChipped() {
        GlassEyes g = court(1, 3, 1);
        g.eye(0, true);
        g.put(0, 0);
        g.put(1, 0);
        due("it is one eye that sees", g.touch(0, 0), 2);
        knows("once", g, 0, 0);
        knows("twice", g, 1, 0, 0);
        g.touch(1, 0);
        knows("just four", g, 1, 1, 1, 0, 0);
        g.touch(2, 0);
        knows("two are forgotten", g, 1, 2, 2, 1, 1);
        knows("none is", g, 0, 2, 1, 0);
    }

    private static void putInSince() {
        GlassEyes g = court(2, 1, 2);
        g.put(0, 0);
        where("at the first hour", g, 0, 0, 0);
        touchTill(g, 999, 0, 1);
        where("it is so yet", g, 0, 0, 0);
        g.put(0, NONE);
        where("to the drawer at the last hour", g, 0, NONE, 999);
        g.put(1, 1);
        where("at the last hour", g, 1, 1, 999);
    }

    private static void swappedSince() {
        GlassEyes g = court(2, 1, 6);
        g.put(0, 0);
        g.put(1, 0);
        g.put(2, 1);
        g.touch(0, 1);
        g.swap(0, 1);
        where("two of one face", g, 0, 0, 1);
        where("two of one face", g, 1, 0, 1);
        g.touch(0, 1);
        g.swap(3, 4);
        where("two in the drawer", g, 3, NONE, 2);
        where("two in the drawer", g, 4, NONE, 2);
        g.touch(0, 1);
        g.swap(0, 2);
        where("of two faces", g, 0, 1, 3);
        where("of two faces", g, 2, 0, 3);
        g.touch(0, 1);
        g.swap(5, 0);
        where("with the drawer", g, 5, 1, 4);
        where("with the drawer", g, 0, NONE, 4);
        where("another is as it was", g, 1, 0, 1);
    }

    private static void polished() {
        GlassEyes g = court(1, 2, 2);
        g.put(0, 0);
        for (int i = 0; i < 5; i++) {
            g.touch(1, 0);
        }
        g.put(1, 0);
        g.touch(0, 0);
        due("four", g.polish(0), 4);
        knows("nothing", g, 0);
        where("where it was", g, 0, 0, 0);
        knows("another knows yet", g, 1, 0);
        due("nothing", g.polish(0), 0);
        g.put(1, NONE);
        due("in the drawer", g.polish(1), 1);
        knows("nothing in the drawer", g, 1);
    }

    private static void eachIsAStep() {
        GlassEyes g = court(1, 1, 2);
        g.touch(0, 0);
        due("a touch", g.about(6), 1);
        g.put(0, 0);
        due("putting in", g.about(6), 2);
        g.put(0, NONE);
        due("to the drawer", g.about(6), 3);
        g.swap(0, 1);
        due("swapping", g.about(6), 4);
        g.polish(0);
        due("polishing", g.about(6), 5);
        g.cat(0, 40);
        due("a cat", g.about(6), 6);
        g.thing(0);
        g.eye(0, false);
        read(g, "");
        g.by(0);
        g.shown(0);
        g.image();
        due("nothing else", g.about(6), 6);
    }

    private static void latestThirty() {
        for (int steps = 29; steps <= 61; steps++) {
            GlassEyes g = court(1, 1, 0);
            for (int i = 0; i < steps; i++) {
                g.touch(0, 0);
            }
            int can = Math.min(30, steps);
            due(steps + " steps", g.about(6), can);
            for (int i = can - 1; i >= 0; i--) {
                due("yet, of " + steps, g.undo(), i);
                due("hour, of " + steps, g.about(3), steps - can + i);
            }
            due("none, of " + steps, g.undo(), NONE);
            due("the hour stays, of " + steps, g.about(3), steps - can);
            due("one more, of " + steps, g.touch(0, 0), 0);
            due("can be taken back, of " + steps, g.undo(), 0);
        }
    }

    private static void allAsAhead() {
        GlassEyes g = court(2, 2, 2);
        g.put(0, 0);
        g.put(1, 1);
        touchTill(g, 998, 0, 0);
        g.touch(1, 0);
        g.undo();
        due("from the last hour", g.about(3), 998);
        knows("the thing that was forgotten is there again", g, 0, 0, 0, 0, 0);
        due("it can be anew", g.touch(1, 0), 1);
        g.swap(0, 1);
        g.undo();
        where("as ahead of swapping", g, 0, 0, 0);
        where("as ahead of swapping", g, 1, 1, 0);
        g.polish(0);
        g.undo();
        knows("as ahead of polishing", g, 0, 1, 0, 0, 0);
        g.cat(7, 40);
        g.undo();
        where("as ahead of a cat", g, 0, 0, 0);
        where("as ahead of a cat", g, 1, 1, 0);
        g.put(0, NONE);
        g.undo();
        where("as ahead of taking out", g, 0, 0, 0);
    }

    private static void toldSince() {
        GlassEyes g = court(1, 1, 0);
        g.touch(0, 0);
        g.eye(2, true);
        g.put(0, 0);
        g.touch(0, 0);
        g.undo();
        where("told ahead of that step", g, 0, 0, 1);
        g.undo();
        where("ahead of putting in", g, 0, NONE, 0);
        g.put(0, 0);
        g.touch(0, 0);
        g.undo();
        g.undo();
        due("a step ahead of its telling", g.undo(), 0);
        due("it is an eye yet", g.about(2), 1);
        where("told since", g, 0, NONE, 0);
        knows("told since", g, 0);
        due("of that colour", g.of(0, 6) * 10 + g.of(0, 7), 21);
        GlassEyes h = court(1, 1, 0);
        h.touch(0, 0);
        for (int i = 0; i < 8; i++) {
            h.eye(3, false);
        }
        h.put(7, 0);
        h.touch(0, 0);
        h.swap(7, 6);
        for (int i = 3; i >= 0; i--) {
            due("yet", h.undo(), i);
        }
        for (int i = 0; i < 8; i++) {
            where("all eight told since", h, i, NONE, 0);
            knows("all eight told since", h, i);
        }
    }

    private static void partOne() {
        sentence("COURTIERS 0 .. 5 (told: how many).", TermsBoundariesTest::courtiers);
        sentence("THINGS 0 .. 7 (told one by one)", TermsBoundariesTest::things);
        sentence("KIND (0 .. 3).", TermsBoundariesTest::kinds);
        sentence("EYES 0 .. 7 (told one by one)", TermsBoundariesTest::eyes);
        sentence("COLOUR (0 .. 3), CHIPPED or not,", TermsBoundariesTest::colours);
        sentence("WORN by a COURTIER or in THE DRAWER (NONE: at first), since an HOUR (0 at first)",
                TermsBoundariesTest::inTheDrawerAtFirst);
        sentence("the latest first (at first none).", TermsBoundariesTest::nothingKnownAtFirst);
        sentence("what it KNOWS: up to 4 THINGS, the latest first", TermsBoundariesTest::fourKnown);
        sentence("A COURTIER wears two at most.", TermsBoundariesTest::twoWorn);
        sentence("HOUR 0 .. 999 (at first 0).", TermsBoundariesTest::hours);
        sentence("A TOUCH of a THING by a COURTIER: HOUR is one more;", TermsBoundariesTest::oneHourMore);
        sentence("each EYE WORN by that one, by number, for which sees is so (without: it is)",
                TermsBoundariesTest::seenByLaw);
        sentence("the THING comes ahead of what it KNOWS (a fifth one is forgotten)", TermsBoundariesTest::fifthForgotten);
        sentence("(a fifth one is forgotten), twice, if it is CHIPPED.", TermsBoundariesTest::twiceIfChipped);
        sentence("PUT IN: an EYE is WORN by a COURTIER (or in THE DRAWER), since HOUR as it is.",
                TermsBoundariesTest::putInSince);
        sentence("SWAPPED: two EYES change where they are, both since HOUR as it is.", TermsBoundariesTest::swappedSince);
        sentence("POLISHED: an EYE KNOWS nothing.", TermsBoundariesTest::polished);
        sentence("STEPS: a TOUCH, putting in, swapping, polishing, A CAT (see IV)", TermsBoundariesTest::eachIsAStep);
        sentence("the latest 30 can be taken back, the latest first", TermsBoundariesTest::latestThirty);
        sentence("(all EYES, HOUR are as ahead of it;", TermsBoundariesTest::allAsAhead);
        sentence("EYES told since are in THE DRAWER, since 0, and know nothing).", TermsBoundariesTest::toldSince);
    }

    // ---- III. What can be told

    private static void rubsBounds() {
        due("below 0", rubs("-1"), 0);
        due("far below 0", rubs("-1000*1000"), 0);
        due("0", rubs("0"), 0);
        due("1", rubs("1"), 1);
        due("98", rubs("98"), 98);
        due("99", rubs("99"), 99);
        due("100", rubs("100"), 99);
        due("far above", rubs("1000*1000"), 99);
        GlassEyes g = court(1, 1, 1);
        due("without a text", g.of(0, 8), 1);
        read(g, "sees 1=1;");
        read(g, "rubs hour;");
        g.by(0);
        due("without rubs", g.of(0, 8), 1);
        g.by(1);
        due("as it stands", g.of(0, 8), 0);
        g.touch(0, 0);
        due("as it stands an hour later", g.of(0, 8), 1);
        touchTill(g, 100, 0, 0);
        due("at hour 100", g.of(0, 8), 99);
    }

    /** Two courtiers wear two eyes each; the stories differ by what each of them touched. */
    private static GlassEyes fourWorn(String laws) {
        GlassEyes g = court(2, 2, 4);
        g.put(0, 0);
        g.put(1, 0);
        g.put(2, 1);
        g.put(3, 1);
        read(g, laws + "touch 0 by 0;touch 0 by 1;");
        read(g, "touch 1 by 0;touch 1 by 1;");
        read(g, "touch 0 by 0;touch 1 by 1;");
        read(g, "touch 1 by 0;touch 0 by 1;");
        g.by(0);
        return g;
    }

    private static void leastRubs() {
        due("the cheapest one", fourWorn("rubs 4-eye;").verdict(3), 8);
        due("the cheapest two", fourWorn("rubs 4-eye;").verdict(7), 10);
        due("dearest 99, cheapest 0", fourWorn("rubs 99-eye*33;").verdict(3), 8);
        due("by the rubs that count, all are 99", fourWorn("rubs 200-eye;").verdict(3), 1);
        due("by the rubs that count, all are 0", fourWorn("rubs -eye;").verdict(3), 1);
        // Eye 0 tells all apart for 99; eyes 1 and 2 together do so for 97, 98 or 99.
        for (int more = 0; more <= 2; more++) {
            GlassEyes g = court(3, 3, 3);
            for (int i = 0; i < 3; i++) {
                g.put(i, i);
            }
            read(g, "rubs 99-50*(eye/1)+" + (more + 49) + "*(eye/2);touch 0 by 0;touch 0 by 1;touch 0 by 2;");
            read(g, "touch 1 by 0;touch 1 by 1;touch 0 by 2;");
            read(g, "touch 2 by 0;touch 0 by 1;touch 1 by 2;");
            g.by(0);
            due("rubs", g.of(0, 8) * 10000 + g.of(1, 8) * 100 + g.of(2, 8), 994900 + 48 + more);
            due("49 + " + (48 + more) + " against 99", g.verdict(7), more == 2 ? 1 : 6);
        }
    }

    private static void fewerAtLikeRubs() {
        // Eye 2 alone tells all apart for 2; so do eyes 0 and 1, a lower set, for 1 each.
        GlassEyes g = court(3, 3, 3);
        for (int i = 0; i < 3; i++) {
            g.put(i, i);
        }
        read(g, "rubs 1+eye/2;touch0by0;touch0by1;touch0by2;");
        read(g, "touch1by0;touch0by1;touch1by2;");
        read(g, "touch0by0;touch1by1;touch2by2;");
        g.by(0);
        due("rubs", g.of(0, 8) * 100 + g.of(1, 8) * 10 + g.of(2, 8), 112);
        due("one eye for as much as two lower ones", g.verdict(7), 4);
        due("less for two stories", g.verdict(3), 1);
        due("less for two others", g.verdict(5), 2);
    }

    private static void fewerThenLowest() {
        due("all cost nothing: one eye, the lowest", fourWorn("rubs 0;").verdict(3), 1);
        due("all cost nothing: two, the lowest", fourWorn("rubs 0;").verdict(15), 5);
        due("all cost one", fourWorn("").verdict(3), 1);
        due("all cost one: two, the lowest", fourWorn("").verdict(15), 5);
        due("two at like rubs", fourWorn("rubs 7;").verdict(7), 5);
        due("the second face is as dear: its lowest", fourWorn("rubs 2-eye/2;").verdict(3), 4);
        GlassEyes g = court(1, 1, 8);
        read(g, "");
        read(g, "put 7 on 0;touch 0 by 0;");
        due("the eighth alone", g.verdict(3), 128);
        read(g, "put 6 on 0;touch 0 by 0;");
        due("the seventh and the eighth", g.verdict(7), 192);
        due("the seventh alone", g.verdict(5), 64);
        due("either would do", g.verdict(6), 64);
    }

    private static void noneTellsApart() {
        GlassEyes g = court(1, 1, 1);
        read(g, "");
        read(g, "touch 0 by 0;");
        read(g, "put 0 on 0;touch 0 by 0;");
        read(g, "put 0 on 0;touch 0 by 0;put 0 on 0;");
        due("nothing is seen in either", g.verdict(3), NONE);
        due("a thing and none", g.verdict(5), 1);
        due("two of three alike", g.verdict(7), NONE);
        due("the later two alike", g.verdict(12), NONE);
        due("others apart", g.verdict(10), 1);
        GlassEyes none = new GlassEyes(1);
        read(none, "");
        read(none, "");
        due("no eyes", none.verdict(3), NONE);
        due("no eyes, one story", none.verdict(1), 0);
    }

    private static void quarrels() {
        GlassEyes g = court(2, 3, 3);
        due("none worn", g.quarrel(0), 0);
        g.put(0, 0);
        for (int i = 0; i < 4; i++) {
            g.touch(i % 2, 0);
        }
        due("one worn", g.quarrel(0), 0);
        g.put(1, 0);
        due("four things and none", g.quarrel(0), 4);
        g.put(0, NONE);
        g.touch(2, 0);
        g.put(0, 0);
        due("at the latest place another thing, at three one and none", g.quarrel(0), 4);
        g.touch(2, 0);
        due("the first place is alike, 2 2 against 2 1 0 1", g.quarrel(0), 3);
        g.touch(2, 0);
        due("two alike", g.quarrel(0), 2);
        g.touch(2, 0);
        due("three alike", g.quarrel(0), 1);
        g.touch(2, 0);
        due("four alike", g.quarrel(0), 0);
        due("another courtier", g.quarrel(1), 0);
        g.put(1, 1);
        g.polish(1);
        due("of two faces", g.quarrel(0) * 10 + g.quarrel(1), 0);
    }

    private static void shownFour() {
        GlassEyes g = court(1, 2, 2);
        g.put(0, 0);
        due("nothing at first", g.about(7), 0);
        due("nothing is known, just as shown", g.how(0, 0, NONE), 1);
        for (int i = 1; i <= 4; i++) {
            g.touch(0, 0);
            due("more known than shown", g.how(0, 0, NONE), 0);
            due("shown", g.shown(0), i);
            due("just so", g.how(0, 0, NONE), 1);
        }
        due("a fifth", g.shown(0), -2);
        due("four yet", g.about(7), 4);
        due("just so yet", g.how(0, 0, NONE), 1);
        g.polish(0);
        for (int i = 0; i < 3; i++) {
            g.touch(0, 0);
        }
        due("less known than shown", g.how(0, 0, NONE), 0);
    }

    private static void latestShownFirst() {
        GlassEyes g = court(1, 3, 1);
        g.put(0, 0);
        g.touch(0, 0);
        g.touch(1, 0);
        g.touch(2, 0);
        g.shown(0);
        g.shown(1);
        g.shown(2);
        due("the earliest first", g.how(0, 0, NONE), 0);
        g.shown(NONE);
        g.shown(2);
        g.shown(1);
        g.shown(0);
        due("the latest first", g.how(0, 0, NONE), 1);
    }

    private static void rowsOfTouches() {
        GlassEyes g = court(2, 2, 1);
        g.put(0, 1);
        due("-1", g.how(0, -1, NONE), -3);
        due("of none there is one row", g.how(0, 0, NONE), 1);
        due("of one: two by the other", g.how(0, 1, NONE), 2);
        due("of two", g.how(0, 2, NONE), 4);
        due("of three", g.how(0, 3, NONE), 8);
        due("4", g.how(0, 4, NONE), -3);
        g.shown(1);
        due("of none there is none", g.how(0, 0, NONE), 0);
        due("just one touch", g.how(0, 1, NONE), 1);
        due("of two: the other ahead or behind", g.how(0, 2, NONE), 4);
        due("of three", g.how(0, 3, NONE), 12);
        for (int i = 0; i < 3; i++) {
            g.shown(0);
        }
        due("four can't be by three touches", g.how(0, 3, NONE), 0);
        g.touch(0, 1);
        due("one is known, three are wanting", g.how(0, 3, NONE), 1);
        due("a row of the wearer's alone", g.how(0, 3, 0) * 10000 + g.how(0, 3, 1) * 100 + g.how(0, 3, 2), 80809);
    }

    private static void rowsThatCanBe() {
        GlassEyes g = court(1, 1, 1);
        touchTill(g, 996, 0, 0);
        due("three hours are left", g.how(0, 3, NONE), 1);
        for (int left = 2; left >= 0; left--) {
            g.touch(0, 0);
            for (int n = 0; n <= 3; n++) {
                due(n + " with " + left + " hours left", g.how(0, n, NONE), n <= left ? 1 : 0);
                due(n + " surely with " + left + " hours left", g.how(0, n, -2), n > 0 && n <= left ? 1 : 0);
            }
        }
        due("no first touch", g.how(0, 1, 0), -3);
        GlassEyes bare = court(6, 0, 1);
        due("without things, of none", bare.how(0, 0, NONE), 1);
        due("without things, of one", bare.how(0, 1, NONE), 0);
        due("all there are", court(6, 8, 1).how(0, 3, NONE), 48 * 48 * 48);
    }

    private static void rowsByLaw() {
        GlassEyes g = court(2, 3, 2);
        g.put(1, 1);
        g.touch(2, 0);
        read(g, "sees hour=4 and since=4 and many=0 and eye=1;");
        read(g, "sees many<2;");
        read(g, "sees thing=many;");
        g.shown(1);
        g.by(0);
        due("at the third touch alone, of two", g.how(1, 2, NONE), 0);
        due("at the third touch alone", g.how(1, 3, NONE), 36);
        due("that one", g.how(1, 3, 0) * 10000 + g.how(1, 3, 1) * 100 + g.how(1, 3, 2), 9);
        g.by(1);
        g.shown(0);
        due("two are learned, then no more", g.how(1, 3, NONE), 3 + 3 * 3);
        due("the first row", g.how(1, 3, 0) * 10000 + g.how(1, 3, 1) * 100 + g.how(1, 3, 2), 809);
        due("the wearer surely", g.how(1, 3, -2), 2);
        g.by(2);
        due("thing 0 first, then thing 1", g.how(1, 2, NONE), 1);
        due("with one unseen", g.how(1, 3, NONE), 3 * 3 + 2 + 2 + 2);
        g.shown(NONE);
        g.shown(0);
        g.shown(1);
        due("not the other way round", g.how(1, 3, NONE), 0);
        due("the eye in the drawer sees none of it", g.how(0, 3, NONE), 0);
    }

    private static void sure() {
        GlassEyes g = court(2, 1, 1);
        due("of none nobody", g.how(0, 0, -2), 0);
        due("either of two: nobody", g.how(0, 1, -2), 0);
        g.put(0, 1);
        due("not the wearer: the only other", g.how(0, 1, -2), 1);
        g.shown(0);
        due("the wearer", g.how(0, 1, -2), 2);
        due("both", g.how(0, 2, -2), 3);
        due("both, of three", g.how(0, 3, -2), 3);
        g.shown(0);
        g.shown(0);
        due("the wearer alone, of three", g.how(0, 3, -2), 2);
        due("without rows", g.how(0, 2, -2), 0);
        GlassEyes last = court(6, 1, 1);
        last.put(0, 5);
        last.shown(0);
        due("the sixth", last.how(0, 1, -2), 32);
        due("any of the other five: not surely", last.how(0, 2, -2), 32);
        GlassEyes lone = court(1, 1, 1);
        due("the only one, in the drawer", lone.how(0, 3, -2), 1);
        lone.put(0, 0);
        read(lone, "sees 1=2;");
        lone.by(0);
        due("the only one, who wears what sees nothing", lone.how(0, 1, -2), 1);
        due("and of three", lone.how(0, 3, -2) * 10 + lone.how(0, 3, NONE), 11);
    }

    private static void firstRow() {
        GlassEyes g = court(6, 8, 2);
        g.put(0, 5);
        g.shown(7);
        due("the highest touch", g.how(0, 1, 0), 47);
        due("an unseen one ahead of it", g.how(0, 2, 0) * 100 + g.how(0, 2, 1), 47);
        due("nothing behind one", g.how(0, 1, 1), -3);
        due("nothing behind three", g.how(0, 3, 3), -3);
        g.put(0, 0);
        due("by the lowest courtier", g.how(0, 1, 0), 7);
        due("the seen one is the lower", g.how(0, 2, 0) * 100 + g.how(0, 2, 1), 708);
        due("and then two", g.how(0, 3, 0) * 10000 + g.how(0, 3, 1) * 100 + g.how(0, 3, 2), 70808);
        g.shown(NONE);
        due("in the drawer: the lowest", g.how(1, 2, 0) * 100 + g.how(1, 2, 1), 0);
        due("of none there is no touch", g.how(1, 0, 0), -3);
    }

    private static void supperTwos() {
        GlassEyes g = court(1, 1, 8);
        read(g, "");
        due("all twos", g.supper(0, 7, NONE), 28);
        int i = 0;
        for (int lower = 0; lower < 8; lower++) {
            for (int higher = lower + 1; higher < 8; higher++) {
                due("two " + i, g.supper(0, 7, i), 8 * lower + higher);
                i++;
            }
        }
        due("behind the last", g.supper(0, 7, 28), NONE);
        GlassEyes two = court(1, 1, 2);
        read(two, "");
        due("one two", two.supper(0, 0, NONE), 1);
        GlassEyes one = court(1, 1, 1);
        read(one, "");
        due("of one eye none", one.supper(0, 0, NONE), 0);
        due("of one eye not the first", one.supper(0, 0, 0), NONE);
    }

    private static void supperSince() {
        GlassEyes g = court(2, 1, 3);
        g.put(0, 0);
        g.put(1, 1);
        g.touch(0, 1);
        read(g, "sees since=1;touch 0 by 0;");
        g.by(0);
        g.shown(0);
        g.shown(0);
        due("eye 1 came to courtier 0 at the hour of supper", g.supper(0, 1, NONE), 1);
        due("with eye 0", g.supper(0, 1, 0), 1);
        g.shown(NONE);
        due("eye 0 sees nothing, whatever was swapped", g.supper(0, 0, NONE), 3);
        due("nothing was changed", g.of(0, 4) * 100 + g.of(1, 4) * 10 + g.about(6), 13);
    }

    private static void partThree() {
        sentence("RUBS of an EYE: rubs as it stands (0 at least, 99 at most; without: 1).", TermsBoundariesTest::rubsBounds);
        sentence("the set of EYES of the least RUBS together by what all of them KNOW", TermsBoundariesTest::leastRubs);
        sentence("of like ones fewer EYES,", TermsBoundariesTest::fewerAtLikeRubs);
        sentence("of like ones fewer EYES, then the lowest set;", TermsBoundariesTest::fewerThenLowest);
        sentence("none, if not even all tell them apart.", TermsBoundariesTest::noneTellsApart);
        sentence("QUARREL of a COURTIER: if two EYES are WORN: at how many places (0 .. 3, the latest first) they KNOW"
                + " otherwise (a THING and none, too); else 0.", TermsBoundariesTest::quarrels);
        sentence("SHOWN (4 at most; told): THINGS,", TermsBoundariesTest::shownFour);
        sentence("THINGS, the latest first, that an EYE KNOWS, no more.", TermsBoundariesTest::latestShownFirst);
        sentence("HOW: rows of n TOUCHES (0 to 3)", TermsBoundariesTest::rowsOfTouches);
        sentence("that can be, of THINGS by COURTIERS, one behind the other from how all stands",
                TermsBoundariesTest::rowsThatCanBe);
        sentence("behind which an EYE KNOWS just what is SHOWN: how many;", TermsBoundariesTest::rowsByLaw);
        sentence("SURE: COURTIERS (bits) who touched in each of them (0 without rows);", TermsBoundariesTest::sure);
        sentence("the first row (of the lowest first TOUCH, 8 times the COURTIER and the THING, then of the second, ..):"
                + " its i-th TOUCH.", TermsBoundariesTest::firstRow);
        sentence("(8 times the lower, and the higher)", TermsBoundariesTest::supperTwos);
        sentence("SUPPER: which two EYES can have been SWAPPED (by hand, as it were) ahead of a STORY",
                TermsBoundariesTest::supperSince);
    }

    // ---- IV. A cat, an image

    private static void seeds() {
        for (int seed : new int[] {-1, 10000, FAR, DEEP}) {
            refused("seed " + seed, () -> court(1, 1, 3), x -> x.cat(seed, 1), NONE);
        }
        // X is 1, then 294 (of three eyes: 1 and 0); 59995, then 29328 (1 and 0).
        due("seed 0", court(1, 1, 3).cat(0, 1), 1);
        due("seed 9999", court(1, 1, 3).cat(9999, 1), 1);
        // Of 8: 1 and 294 mod 8 = 6; 59995 mod 8 = 3 and 29328 mod 8 = 0.
        GlassEyes g = court(1, 1, 8);
        g.put(1, 0);
        g.touch(0, 0);
        g.cat(0, 1);
        where("seed 0", g, 6, 0, 1);
        g.put(6, NONE);
        g.put(3, 0);
        g.cat(9999, 1);
        where("seed 9999", g, 0, 0, 1);
        where("seed 9999", g, 3, NONE, 1);
    }

    private static void drawTimes() {
        for (int n : new int[] {-1, 0, 41, FAR, DEEP}) {
            refused(n + " times", () -> court(1, 1, 3), x -> x.cat(5, n), NONE);
        }
        for (int n : new int[] {1, 2, 39, 40}) {
            GlassEyes g = court(6, 1, 8);
            int[] worn = new int[8];
            for (int i = 0; i < 8; i++) {
                worn[i] = i / 2;
                g.put(i, i / 2);
            }
            due(n + " times", g.cat(1234, n), draw(1234, n, worn));
            for (int i = 0; i < 8; i++) {
                due(n + " times, eye " + i, g.of(i, 4), worn[i]);
            }
        }
    }

    /** The draw of part IV on where the eyes are: how many times two were swapped. */
    private static int draw(int seed, int n, int[] worn) {
        long x = seed * 6L + 1;
        int swapped = 0;
        for (int i = 0; i < n; i++) {
            int one = (int) (x % worn.length);
            x = (x * 211 + 83) % 30071;
            int other = (int) (x % worn.length);
            x = (x * 211 + 83) % 30071;
            int moved = worn[one];
            worn[one] = worn[other];
            worn[other] = moved;
            swapped += one == other ? 0 : 1;
        }
        return swapped;
    }

    private static void ifTheyAreTwo() {
        GlassEyes g = court(1, 1, 1);
        due("one eye", g.cat(0, 40), 0);
        g.touch(0, 0);
        due("one eye again", g.cat(0, 1), 0);
        where("it was not swapped", g, 0, NONE, 0);
        // Of two eyes seed 0: 1 and 0; seed 1 (X 7, 1560): 1 and 0; seed 2 (X 13, 2826): 1 and 0; seed 25 (151, 1873): 1, 1.
        GlassEyes two = court(1, 1, 2);
        two.touch(0, 0);
        due("one and the same", two.cat(25, 1), 0);
        where("it was not swapped", two, 1, NONE, 0);
        due("it is a step", two.about(6), 2);
        due("two", two.cat(0, 1), 1);
        where("swapped", two, 0, NONE, 1);
        where("swapped", two, 1, NONE, 1);
    }

    /** One draw of eight eyes swaps the one with the other. */
    private static void drawn(int seed, int n, int one, int other) {
        GlassEyes g = court(1, 1, 8);
        g.put(one, 0);
        g.touch(0, 0);
        due("seed " + seed, g.cat(seed, n), n);
        where("seed " + seed, g, other, 0, 1);
        where("seed " + seed, g, one, NONE, 1);
    }

    private static void anew() {
        // 139, 29412: no wrap yet. 145, 30678 mod 30071 = 607: one wrap. 11971, then just 0. 59995, 29328: many.
        drawn(23, 1, 3, 4);
        drawn(24, 1, 1, 7);
        drawn(1995, 1, 3, 0);
        drawn(9999, 1, 3, 0);
        // 11971 and 0, then 83 and 17596: eyes 3 and 0, then 3 (which has come to the drawer) and 4.
        GlassEyes g = court(1, 1, 8);
        g.put(4, 0);
        due("from 0 on", g.cat(1995, 2), 2);
        where("from 0 on", g, 3, 0, 0);
    }

    private static void oneStep() {
        GlassEyes g = court(2, 1, 2);
        g.put(0, 0);
        g.put(1, 1);
        g.touch(0, 1);
        int swapped = g.cat(0, 40);
        due("often swapped", swapped > 10, true);
        due("one step", g.about(6), 4);
        due("taken back at once", g.undo(), 3);
        where("as ahead of it", g, 0, 0, 0);
        where("as ahead of it", g, 1, 1, 0);
        for (int i = 0; i < 40; i++) {
            g.cat(i, 3);
        }
        due("cats are among the latest 30", g.about(6), 30);
        GlassEyes none = court(1, 1, 1);
        none.cat(0, 40);
        due("one that swaps nothing is a step too", none.about(6), 1);
    }

    private static void imageOfAll() {
        GlassEyes g = court(2, 7, 7);
        g.put(0, 0);
        for (int i = 0; i < 33; i++) {
            g.touch(i % 7, 0);
        }
        read(g, "rubs 3;");
        g.by(0);
        g.shown(4);
        due("hour", g.image(), 33);
        feedAll(g, "polish 1;x");
        g.thing(1);
        g.eye(1, true);
        g.put(7, 1);
        g.text();
        due("a text with a fault was read", g.fault(0) * 100 + g.fault(1), 109);
        for (int i = 0; i < 3; i++) {
            read(g, "rubs " + i + ";");
        }
        g.by(3);
        g.shown(7);
        for (int i = 0; i < 31; i++) {
            g.touch(7, 1);
        }
        feedAll(g, "polish 2;y");
        due("back", g.back(), 33);
        due("things, eyes", g.about(1) * 10 + g.about(2), 77);
        due("texts, the text", g.about(4) * 10 + g.about(5), 10);
        due("steps", g.about(6), 30);
        due("shown", g.about(7), 1);
        g.polish(0);
        g.touch(4, 0);
        due("shown is thing 4", g.how(0, 0, NONE), 1);
        g.back();
        due("the tape is as it was", g.about(8), 10);
        due("the latest fault is as it was: none", g.fault(0), 0);
        due("rubs", g.of(0, 8), 3);
        knows("as it was", g, 0, 4, 3, 2, 1);
        due("the eighth eye is free", g.eye(3, false), 7);
        where("it is new", g, 7, NONE, 0);
        knows("it is new", g, 7);
        due("of its own colour", g.of(7, 6) * 10 + g.of(7, 7), 30);
        due("the eighth thing is free", g.thing(2), 7);
        due("the tape can be read", g.text(), NONE);
        due("with its fault", g.fault(0) * 100 + g.fault(1), 109);
        for (int i = 29; i >= 0; i--) {
            due("the image's step", g.undo(), i);
            due("the image's hour", g.about(3), i + 3);
        }
        due("no more", g.undo(), NONE);
        due("the image stays", g.back(), 33);
        due("with its steps", g.about(6), 30);
    }

    private static void partFour() {
        sentence("A CAT by a SEED: X is SEED (0 .. 9999) * 6 + 1;", TermsBoundariesTest::seeds);
        sentence("n times (1 .. 40): EYES X mod how many there are", TermsBoundariesTest::drawTimes);
        sentence("are SWAPPED (if they are two), X anew;", TermsBoundariesTest::ifTheyAreTwo);
        sentence("X anew is (X * 211 + 83) mod 30071.", TermsBoundariesTest::anew);
        sentence("It is one STEP: how many times two were SWAPPED.", TermsBoundariesTest::oneStep);
        sentence("AN IMAGE: all as it is, but the tape and the latest FAULT. BACK: all is so again.",
                TermsBoundariesTest::imageOfAll);
    }

    public static void main(String[] args) {
        partOne();
        partThree();
        partFour();
        finish();
    }
}
