/** Each promise of the document in turn: ordinary inputs, the edges that it names, wrong inputs. */
public final class PromisesTest extends Bench {
    // ---- the promises

    private static void promise1() {
        int[][] asked = {{1, 1}, {6, 6}, {3, 3}, {0, 1}, {-5, 1}, {DEEP, 1}, {7, 6}, {FAR, 6}};
        for (int[] row : asked) {
            due("1: courtiers " + row[0], new GlassEyes(row[0]).about(0), row[1]);
        }
        GlassEyes g = new GlassEyes(4);
        int[] first = {4, 0, 0, 0, 0, -1, 0, 0, 0};
        for (int what = 0; what < first.length; what++) {
            due("1: about " + what, g.about(what), first[what]);
        }
        g.thing(1);
        g.eye(1, true);
        g.put(0, 3);
        read(g, "rubs 3;");
        g.by(0);
        g.touch(0, 3);
        g.shown(0);
        due("1: back to the first image", g.back(), 0);
        for (int what = 0; what < first.length; what++) {
            due("1: about behind back " + what, g.about(what), first[what]);
        }
    }

    private static void promise2() {
        GlassEyes g = new GlassEyes(1);
        due("2: kind 4", g.thing(4), -1);
        due("2: kind -1", g.thing(-1), -1);
        due("2: kind far", g.thing(FAR), -1);
        due("2: kind deep", g.thing(DEEP), -1);
        for (int i = 0; i < 8; i++) {
            due("2: thing " + i, g.thing(3 - i % 4), i);
        }
        due("2: the 9th", g.thing(0), -1);
        due("2: how many", g.about(1), 8);
        for (int i = 0; i < 8; i++) {
            due("2: kind of " + i, g.about(10 + i), 3 - i % 4);
        }
        due("2: no step", g.about(6), 0);
    }

    private static void promise3() {
        GlassEyes g = new GlassEyes(1);
        due("3: colour 4", g.eye(4, true), -1);
        due("3: colour -1", g.eye(-1, false), -1);
        due("3: colour far", g.eye(FAR, false), -1);
        for (int i = 0; i < 8; i++) {
            due("3: eye " + i, g.eye(3 - i % 4, i % 3 == 0), i);
        }
        due("3: the 9th", g.eye(0, false), -1);
        due("3: how many", g.about(2), 8);
        for (int i = 0; i < 8; i++) {
            due("3: colour of " + i, g.of(i, 6), 3 - i % 4);
            due("3: chipped " + i, g.of(i, 7), i % 3 == 0 ? 1 : 0);
            due("3: in the drawer " + i, g.of(i, 4), -1);
            due("3: since " + i, g.of(i, 5), 0);
            knows("3", g, i);
        }
        due("3: no step", g.about(6), 0);
        GlassEyes h = court(1, 1, 0);
        h.touch(0, 0);
        h.eye(0, false);
        due("3: since 0 at a later hour", h.of(0, 5), 0);
    }

    private static void promise4() {
        GlassEyes g = new GlassEyes(1);
        for (int i = 1; i <= 15; i++) {
            due("4: feed " + i, g.feed(i, i, i, i, i), 20 * i);
        }
        due("4: over 300", g.feed(1, 1, 1, 1, 1), -1);
        due("4: none came", g.about(8), 300);
        due("4: to 280", g.end(280), 280);
        due("4: just 300", g.feed(1, 1, 1, 1, 1), 300);
        g.end(281);
        due("4: 301", g.feed(1, 1, 1, 1, 1), -1);
        due("4: none came, of 281", g.about(8), 281);
        GlassEyes h = new GlassEyes(1);
        h.feed(0x70 << 24 | 0x6f << 16 | 0x6c << 8 | 0x69, 0x7368_2033, 0x3b20_2020, 0x2020_2020, 0x2020_2020);
        due("4: highest first: polish 3;", h.text(), 0);
        h.feed(0x2020_2020, 0x2020_2020, 0x2020_2020, 0x2020_2020, 0x2020_20ff);
        due("4: the last byte of e", h.text(), -1);
        due("4: its place", h.fault(1), 19);
    }

    private static void promise5() {
        GlassEyes g = new GlassEyes(1);
        due("5: of none", g.end(0), 0);
        due("5: 1 of none", g.end(1), -1);
        g.feed(0, 0, 0, 0, 0);
        due("5: -1", g.end(-1), -1);
        due("5: deep", g.end(DEEP), -1);
        due("5: 21 of 20", g.end(21), -1);
        due("5: far", g.end(FAR), -1);
        due("5: nothing was done", g.about(8), 20);
        due("5: all", g.end(20), 20);
        due("5: some", g.end(7), 7);
        due("5: they are so many", g.about(8), 7);
        due("5: no more than these", g.end(8), -1);
        feedAll(g, "polish 1;   ");
        due("5: first bytes", g.end(9), 9);
        due("5: are the text", g.text(), 0);
        feedAll(g, "polish 12;");
        g.end(8);
        g.text();
        due("5: what stood behind is no part of it", g.fault(0) * 100 + g.fault(1), 108);
    }

    private static void promise6() {
        GlassEyes g = new GlassEyes(1);
        due("6: an empty text", g.text(), 0);
        due("6: no fault", g.fault(0), 0);
        due("6: a text", read(g, "polish 1;"), 1);
        due("6: the tape is empty", g.about(8), 0);
        due("6: a fault", read(g, "polish 8;"), -1);
        due("6: the tape is empty behind a fault", g.about(8), 0);
        due("6: it is none", g.about(4), 2);
        due("6: the third", read(g, "polish 2;"), 2);
        due("6: the fourth", read(g, " \n "), 3);
        due("6: a fifth", read(g, "polish"), -1);
        due("6: the tape stays", g.about(8), 6);
        due("6: it was not read", g.fault(0), 0);
        due("6: four", g.about(4), 4);
        GlassEyes often = new GlassEyes(1);
        for (int i = 0; i < 12; i++) {
            due("6: faults leave nothing behind", read(often, "rubs 0" + times(70, "+1") + ";x"), -1);
        }
        often.eye(0, false);
        due("6: a long one", read(often, "rubs 0" + times(70, "+1") + ";"), 0);
        often.by(0);
        due("6: is whole", often.of(0, 8), 70);
    }

    private static void promise7() {
        GlassEyes g = new GlassEyes(1);
        due("7: ahead of any, 0", g.fault(0), -1);
        due("7: ahead of any, 1", g.fault(1), -1);
        read(g, "polish 8;");
        due("7: what", g.fault(0), 2);
        due("7: where", g.fault(1), 7);
        due("7: 2", g.fault(2), -1);
        due("7: -1", g.fault(-1), -1);
        due("7: far", g.fault(FAR), -1);
        g.back();
        due("7: back leaves it", g.fault(0), 2);
        read(g, "");
        due("7: without", g.fault(0), 0);
        due("7: no place", g.fault(1), -1);
        g.back();
        due("7: back leaves that", g.fault(0), 0);
    }

    private static void promise8() {
        GlassEyes g = new GlassEyes(1);
        due("8: none", g.by(-1), true);
        due("8: 0 of none", g.by(0), false);
        read(g, "rubs 7;");
        read(g, "rubs 9;");
        g.eye(0, false);
        due("8: still none rules", g.of(0, 8), 1);
        due("8: text 1", g.by(1), true);
        due("8: it rules", g.about(5), 1);
        due("8: its rubs", g.of(0, 8), 9);
        due("8: text 2", g.by(2), false);
        due("8: -2", g.by(-2), false);
        due("8: far", g.by(FAR), false);
        due("8: it rules yet", g.about(5), 1);
        due("8: text 0", g.by(0), true);
        due("8: its rubs", g.of(0, 8), 7);
        due("8: none", g.by(-1), true);
        due("8: none rules", g.about(5), -1);
        due("8: no step", g.about(6), 0);
    }

    private static void promise9() {
        GlassEyes g = new GlassEyes(2);
        due("9: without things", g.touch(0, 0), -1);
        for (int i = 0; i < 6; i++) {
            g.thing(i % 4);
        }
        due("9: nobody sees", g.touch(0, 1), 0);
        due("9: it is a step and an hour", g.about(3) * 100 + g.about(6), 101);
        g.eye(0, false);
        g.eye(1, true);
        g.eye(2, false);
        g.put(0, 0);
        g.put(1, 0);
        g.put(2, 1);
        due("9: two see", g.touch(5, 0), 2);
        knows("9: once", g, 0, 5);
        knows("9: twice if chipped", g, 1, 5, 5);
        knows("9: not the other's", g, 2);
        due("9: one sees", g.touch(4, 1), 1);
        g.touch(3, 0);
        g.touch(2, 0);
        knows("9: latest first", g, 0, 2, 3, 5);
        knows("9: the fifth is forgotten", g, 1, 2, 2, 3, 3);
        g.touch(1, 0);
        g.touch(1, 0);
        knows("9: four at most", g, 0, 1, 1, 2, 3);
        int[][] others = {{-1, 0}, {6, 0}, {FAR, 0}, {0, -1}, {0, 2}, {0, DEEP}};
        for (int[] o : others) {
            due("9: others " + o[0] + " " + o[1], g.touch(o[0], o[1]), -1);
        }
        due("9: the hour", g.about(3), 7);
        touchTill(g, 999, 0, 1);
        due("9: hour 999", g.about(3), 999);
        due("9: at 999", g.touch(0, 1), -1);
        due("9: hour stays", g.about(3), 999);
        promise9Law();
    }

    private static void promise9Law() {
        GlassEyes g = court(2, 4, 2);
        read(g, "sees kind = colour and hour > 2 or who = 1;");
        g.by(0);
        g.put(0, 0);
        g.put(1, 0);
        due("9: hour 1 is too early", g.touch(1, 0), 0);
        due("9: hour 2 is too early", g.touch(1, 0), 0);
        due("9: the new hour is asked", g.touch(1, 0), 1);
        knows("9: eye of that colour", g, 1, 1);
        knows("9: not the other", g, 0);
        g.put(0, -1);
        g.put(0, 1);
        due("9: who", g.touch(2, 1), 1);
        GlassEyes h = court(1, 2, 1);
        read(h, "sees since = 2 or many = 1;");
        h.by(0);
        h.touch(0, 0);
        h.put(0, 0);
        due("9: since 1", h.touch(0, 0), 0);
        due("9: since 2", h.touch(1, 0), 1);
        due("9: many 1", h.touch(0, 0), 1);
        due("9: many 2", h.touch(0, 0), 0);
        knows("9: law", h, 0, 0, 1);
    }

    private static void promise10() {
        GlassEyes g = court(2, 1, 4);
        due("10: to the drawer, where it is", g.put(0, -1), false);
        due("10: put", g.put(0, 0), true);
        due("10: where it is", g.put(0, 0), false);
        due("10: second", g.put(1, 0), true);
        due("10: third", g.put(2, 0), false);
        due("10: one of the two again", g.put(1, 0), false);
        g.touch(0, 0);
        g.touch(0, 0);
        due("10: from face to face", g.put(0, 1), true);
        due("10: worn by", g.of(0, 4), 1);
        due("10: since", g.of(0, 5), 2);
        due("10: another since", g.of(1, 5), 0);
        knows("10: knows as it did", g, 0, 0, 0);
        due("10: there is room", g.put(2, 0), true);
        due("10: to the drawer", g.put(1, -1), true);
        due("10: in the drawer", g.of(1, 4), -1);
        due("10: since, in the drawer", g.of(1, 5), 2);
        due("10: eye 4", g.put(4, 0), false);
        due("10: eye -1", g.put(-1, 0), false);
        due("10: eye far", g.put(FAR, -1), false);
        due("10: who 2", g.put(3, 2), false);
        due("10: who -2", g.put(3, -2), false);
        due("10: who far", g.put(3, FAR), false);
        due("10: steps", g.about(6), 7);
    }

    private static void promise11() {
        GlassEyes g = court(2, 1, 4);
        g.put(0, 0);
        g.put(1, 1);
        g.touch(0, 0);
        due("11: swap", g.swap(0, 1), true);
        due("11: worn 0", g.of(0, 4), 1);
        due("11: worn 1", g.of(1, 4), 0);
        due("11: since 0", g.of(0, 5), 1);
        due("11: since 1", g.of(1, 5), 1);
        knows("11: knowledge goes with it", g, 0, 0);
        g.touch(0, 0);
        due("11: with one in the drawer", g.swap(2, 0), true);
        due("11: worn 2", g.of(2, 4), 1);
        due("11: worn 0 again", g.of(0, 4), -1);
        due("11: both in the drawer", g.swap(0, 3), true);
        due("11: since, both in the drawer", g.of(3, 5), 2);
        due("11: one and the same", g.swap(1, 1), false);
        due("11: 4", g.swap(1, 4), false);
        due("11: -1", g.swap(-1, 1), false);
        due("11: far", g.swap(FAR, DEEP), false);
        due("11: steps", g.about(6), 7);
        g.put(0, 0);
        due("11: two of one face", g.swap(0, 1), true);
        due("11: who wears them", g.about(20), 3);
    }

    private static void promise12() {
        GlassEyes g = court(1, 2, 2);
        g.put(0, 0);
        due("12: knew nothing", g.polish(0), 0);
        due("12: a step all the same", g.about(6), 2);
        for (int many = 1; many <= 5; many++) {
            for (int i = 0; i < many; i++) {
                g.touch(i % 2, 0);
            }
            due("12: knew " + many, g.polish(0), Math.min(4, many));
            knows("12: nothing", g, 0);
        }
        due("12: worn yet", g.of(0, 4), 0);
        due("12: since yet", g.of(0, 5), 0);
        due("12: 2", g.polish(2), -1);
        due("12: -1", g.polish(-1), -1);
        due("12: far", g.polish(FAR), -1);
        GlassEyes c = new GlassEyes(1);
        c.thing(0);
        c.eye(0, true);
        c.put(0, 0);
        c.touch(0, 0);
        due("12: chipped", c.polish(0), 2);
    }

    private static void promise13() {
        GlassEyes g = court(2, 2, 2);
        due("13: no text", g.played(0), -2);
        due("13: -1", g.played(-1), -2);
        read(g, "put 0 on 0; rubs 2; touch 1 by 0; swap 0 with 1; drawer 1; sees thing = 5; put 1 on 1; touch 0 by 1; polish 1;");
        due("13: all is done", g.played(0), -1);
        due("13: by the text that rules, none", g.about(3), 2);
        due("13: steps", g.about(6), 7);
        due("13: each is a step", g.undo(), 6);
        due("13: polish was taken back", g.of(1, 0), 0);
        due("13: others", g.played(1), -2);
        due("13: far", g.played(FAR), -2);
        g.undo();
        due("13: eye 1 is where it was put", g.about(21), 2);
    }

    private static void promise13Ends() {
        GlassEyes g = court(1, 1, 2);
        read(g, "rubs 1; touch 0 by 0; put 0 on 0; put 0 on 0; touch 0 by 0;");
        due("13: there", g.played(0), 3);
        due("13: what was done stays", g.about(3) * 10 + g.about(6), 12);
        due("13: again, ended sooner", g.played(0), 2);
        String[] cant = {"touch 1 by 0;", "touch 0 by 1;", "put 2 on 0;", "put 1 on 1;", "drawer 1;", "drawer 2;",
            "swap 1 with 1;", "swap 1 with 2;", "swap 2 with 1;", "polish 2;"};
        for (int i = 0; i < cant.length; i++) {
            GlassEyes h = court(1, 1, 2);
            read(h, "polish 0;" + cant[i] + "polish 1;");
            due("13: can't be: " + cant[i], h.played(0), 1);
            due("13: one step: " + cant[i], h.about(6), 1);
        }
        GlassEyes full = court(1, 1, 3);
        read(full, "put 0 on 0; put 1 on 0; put 2 on 0;");
        due("13: who wears two", full.played(0), 2);
        GlassEyes late = court(1, 1, 0);
        read(late, times(20, "touch 0 by 0;"));
        for (int i = 0; i < 49; i++) {
            due("13: twenty touches", late.played(0), -1);
        }
        due("13: till 999", late.played(0), 19);
        due("13: hour 999", late.about(3), 999);
        due("13: 30 steps", late.about(6), 30);
        due("13: laws alone", emptyPlay(), -1);
    }

    private static int emptyPlay() {
        GlassEyes g = new GlassEyes(1);
        read(g, "rubs 1;");
        return g.played(0);
    }

    private static void promise14() {
        GlassEyes g = new GlassEyes(2);
        due("14: without eyes", g.cat(0, 1), -1);
        g.eye(0, false);
        due("14: one eye", g.cat(5, 40), 0);
        due("14: a step all the same", g.about(6), 1);
        g.eye(0, false);
        g.eye(0, false);
        due("14: seed -1", g.cat(-1, 1), -1);
        due("14: seed 10000", g.cat(10000, 1), -1);
        due("14: n 0", g.cat(0, 0), -1);
        due("14: n 41", g.cat(0, 41), -1);
        due("14: far", g.cat(FAR, FAR), -1);
        due("14: no step", g.about(6), 1);
        g.thing(0);
        g.put(1, 1);
        g.touch(0, 0);
        // X: 1 -> eye 1; 294 -> eye 0: swapped.
        due("14: once", g.cat(0, 1), 1);
        due("14: worn 0", g.of(0, 4), 1);
        due("14: worn 1", g.of(1, 4), -1);
        due("14: since", g.of(1, 5), 1);
        due("14: one step", g.about(6), 4);
        due("14: taken back", g.undo(), 3);
        due("14: as it was", g.of(1, 4), 1);
        for (int seed : new int[] {0, 1, 77, 9999}) {
            for (int n : new int[] {1, 2, 40}) {
                due("14: drawn " + seed + " " + n, g.cat(seed, n), drawn(seed, n, 3));
            }
        }
    }

    private static int drawn(int seed, int n, int eyes) {
        long x = seed * 6L + 1;
        int swapped = 0;
        for (int i = 0; i < n; i++) {
            long one = x % eyes;
            x = (x * 211 + 83) % 30071;
            swapped += one != x % eyes ? 1 : 0;
            x = (x * 211 + 83) % 30071;
        }
        return swapped;
    }

    private static void promise15() {
        GlassEyes g = court(1, 2, 1);
        due("15: none", g.undo(), -1);
        g.put(0, 0);
        g.touch(0, 0);
        g.touch(1, 0);
        g.eye(3, true);
        g.swap(0, 1);
        g.touch(0, 0);
        g.polish(0);
        due("15: polish", g.undo(), 5);
        knows("15: polish back", g, 0, 1, 0);
        due("15: touch", g.undo(), 4);
        due("15: hour", g.about(3), 2);
        knows("15: touch back", g, 1);
        due("15: swap", g.undo(), 3);
        due("15: worn", g.of(0, 4) * 10 + g.of(1, 4), -1);
        due("15: since", g.of(0, 5), 0);
        g.put(1, 0);
        g.touch(1, 0);
        due("15: 5 now", g.about(6), 5);
        g.undo();
        g.undo();
        due("15: ahead of where the eye was told", g.undo(), 2);
        due("15: the eye is there", g.about(2), 2);
        due("15: in the drawer", g.of(1, 4), -1);
        due("15: since 0", g.of(1, 5), 0);
        knows("15: knows nothing", g, 1);
        due("15: colour stays", g.of(1, 6), 3);
        due("15: chip stays", g.of(1, 7), 1);
        g.undo();
        g.undo();
        due("15: no more", g.undo(), -1);
        due("15: hour 0", g.about(3), 0);
        promise15Latest();
    }

    private static void promise15Latest() {
        GlassEyes g = court(1, 1, 0);
        for (int i = 1; i <= 75; i++) {
            g.touch(0, 0);
            due("15: steps behind " + i, g.about(6), Math.min(30, i));
        }
        for (int i = 29; i >= 0; i--) {
            due("15: yet", g.undo(), i);
            due("15: hour", g.about(3), 45 + i);
        }
        due("15: beyond 30", g.undo(), -1);
        due("15: the hour stays", g.about(3), 45);
        GlassEyes told = court(1, 1, 1);
        told.put(0, 0);
        told.eye(0, false);
        told.put(1, 0);
        told.thing(2);
        read(told, "rubs 5;");
        told.by(0);
        told.shown(1);
        told.undo();
        told.undo();
        due("15: things, texts, the text, shown stay",
                told.about(1) * 1000 + told.about(4) * 100 + told.about(5) * 10 + told.about(7), 2101);
        due("15: eyes stay", told.about(2), 2);
    }

    private static void promise16() {
        GlassEyes g = court(2, 2, 2);
        due("16: eye 2", g.of(2, 0), -2);
        due("16: eye -1", g.of(-1, 0), -2);
        due("16: eye far", g.of(FAR, 0), -2);
        due("16: what -1", g.of(0, -1), -2);
        due("16: what 9", g.of(0, 9), -2);
        due("16: what deep", g.of(0, DEEP), -2);
        g.put(1, 1);
        g.touch(1, 1);
        g.touch(0, 1);
        knows("16", g, 1, 0, 1);
        due("16: worn", g.of(1, 4), 1);
        due("16: in the drawer", g.of(0, 4), -1);
        g.put(1, 0);
        due("16: since", g.of(1, 5), 2);
        due("16: colour", g.of(1, 6), 1);
        due("16: chipped", g.of(1, 7), 0);
        due("16: rubs without a text", g.of(1, 8), 1);
        read(g, "rubs eye*40 + many*20 + since*3 + hour + colour + chipped;");
        read(g, "sees 1 = 1;");
        g.by(0);
        due("16: rubs of 1", g.of(1, 8), 83);
        due("16: rubs of 0: in the drawer since 0", g.of(0, 8), 8);
        g.by(1);
        due("16: rubs without rubs", g.of(1, 8), 1);
        due("16: no step", g.about(6), 4);
        due("16: most", rubs("100"), 99);
        due("16: 99", rubs("99"), 99);
        due("16: least", rubs("-1"), 0);
        due("16: 0", rubs("0"), 0);
    }

    private static void promise17() {
        GlassEyes g = court(2, 3, 3);
        g.put(0, 0);
        g.touch(2, 0);
        read(g, "touch 0 by 0; put 1 on 5; swap 0 with 0; touch 7 by 0; put 0 on 0; drawer 1; polish 7; sees 1 = 2; "
                + "swap 0 with 1; touch 1 by 0;");
        int[] first = {0, 2, -1, -1};
        int[] second = {1, -1, -1, -1};
        for (int p = 0; p < 4; p++) {
            due("17: what can't be is left out, 0 at " + p, g.told(0, 0, p), first[p]);
            due("17: 1 at " + p, g.told(0, 1, p), second[p]);
            due("17: 2 at " + p, g.told(0, 2, p), -1);
        }
        due("17: nothing is changed", g.about(3) * 100 + g.about(6), 102);
        knows("17: nor this", g, 0, 2);
        due("17: nor where", g.of(0, 4), 0);
        g.by(0);
        due("17: by the text that rules", g.told(0, 0, 0), 2);
        int[][] others = {{1, 0, 0}, {-1, 0, 0}, {0, 3, 0}, {0, -1, 0}, {0, 0, 4}, {0, 0, -1}, {FAR, FAR, FAR}};
        for (int[] o : others) {
            due("17: others", g.told(o[0], o[1], o[2]), -2);
        }
        GlassEyes late = court(1, 2, 1);
        read(late, "touch 0 by 0; touch 0 by 0; put 0 on 0; drawer 0; put 0 on 0;touch 1 by 0;");
        late.put(0, 0);
        touchTill(late, 997, 1, 0);
        due("17: up to 999", late.told(0, 0, 0) * 100 + late.told(0, 0, 1) * 10 + late.told(0, 0, 2), 1);
    }

    private static void promise18() {
        GlassEyes g = court(3, 3, 3);
        due("18: of none", g.verdict(0), 0);
        due("18: no such text", g.verdict(1), -1);
        g.put(0, 0);
        g.put(1, 1);
        g.put(2, 2);
        read(g, "touch 0 by 0; touch 0 by 1;");
        read(g, "touch 1 by 0; touch 0 by 1;");
        read(g, "touch 1 by 0; touch 1 by 1; touch 1 by 2;");
        read(g, "rubs 10 + eye; touch 1 by 0; touch 0 by 1; drawer 0;");
        due("18: one story", g.verdict(4), 0);
        due("18: 0 and 1 by eye 0", g.verdict(3), 1);
        due("18: 1 and 2 by eye 1 (the lowest)", g.verdict(6), 2);
        due("18: three by two", g.verdict(7), 3);
        due("18: 1 and 3 alike", g.verdict(10), -1);
        due("18: all", g.verdict(15), -1);
        due("18: 16", g.verdict(16), -1);
        due("18: -1", g.verdict(-1), -1);
        due("18: deep", g.verdict(DEEP), -1);
        due("18: far", g.verdict(FAR), -1);
        due("18: nothing is changed", g.about(3) * 10 + g.about(6), 3);
        promise18Rubs();
    }

    private static void promise18Rubs() {
        GlassEyes g = court(2, 2, 4);
        g.put(0, 0);
        g.put(1, 0);
        g.put(2, 1);
        g.put(3, 1);
        read(g, "touch 0 by 0; touch 0 by 1;");
        read(g, "touch 1 by 0; touch 1 by 1; rubs 9 - 2 * eye;");
        read(g, "touch 0 by 0; touch 1 by 1; rubs 5;");
        read(g, "touch 1 by 0; rubs 0;");
        due("18: lowest of like ones", g.verdict(3), 1);
        g.by(1);
        due("18: least rubs", g.verdict(3), 8);
        due("18: two eyes of least rubs", g.verdict(7), 2 | 8);
        g.by(2);
        due("18: like rubs, fewer eyes, lowest", g.verdict(7), 1 | 4);
        g.by(3);
        due("18: no rubs: fewer eyes", g.verdict(3), 1);
        due("18: four stories", g.verdict(15), 5);
        GlassEyes same = court(1, 1, 1);
        read(same, "");
        read(same, "touch 0 by 0;");
        due("18: nobody wears it", same.verdict(3), -1);
        same.put(0, 0);
        due("18: a thing and none", same.verdict(3), 1);
        GlassEyes none = new GlassEyes(1);
        read(none, "");
        read(none, "");
        due("18: no eyes", none.verdict(3), -1);
        due("18: no eyes, one story", none.verdict(2), 0);
        // One dear eye tells all apart; two cheap ones do so for less.
        GlassEyes dear = court(3, 4, 3);
        dear.put(0, 0);
        dear.put(1, 1);
        dear.put(2, 2);
        read(dear, "rubs 9 - eye * 3; touch 0 by 0; touch 0 by 1; touch 0 by 2;");
        read(dear, "touch 1 by 0; touch 1 by 1; touch 0 by 2;");
        read(dear, "touch 2 by 0; touch 0 by 1; touch 1 by 2; rubs 9 - eye * 4;");
        dear.by(0);
        due("18: 9 for one, 6 + 3 for two: fewer", dear.verdict(7), 1);
        dear.by(2);
        due("18: 9 for one, 5 + 1 for two", dear.verdict(7), 6);
    }

    private static void promise19() {
        GlassEyes g = new GlassEyes(2);
        for (int i = 0; i < 3; i++) {
            g.thing(i);
        }
        g.eye(0, false);
        g.eye(0, false);
        g.eye(0, true);
        due("19: none worn", g.quarrel(0), 0);
        due("19: who 2", g.quarrel(2), -1);
        due("19: who -1", g.quarrel(-1), -1);
        due("19: far", g.quarrel(FAR), -1);
        g.put(0, 0);
        g.touch(1, 0);
        due("19: one worn", g.quarrel(0), 0);
        g.put(1, 0);
        due("19: a thing and none", g.quarrel(0), 1);
        g.touch(2, 0);
        due("19: 2 1 against 2", g.quarrel(0), 1);
        g.touch(2, 0);
        due("19: 2 2 1 against 2 2", g.quarrel(0), 1);
        g.touch(0, 0);
        due("19: 0 2 2 1 against 0 2 2", g.quarrel(0), 1);
        g.touch(0, 0);
        due("19: both 0 0 2 2", g.quarrel(0), 0);
        g.put(1, -1);
        g.put(2, 0);
        due("19: against nothing", g.quarrel(0), 4);
        g.touch(1, 0);
        due("19: 1 0 0 2 against 1 1", g.quarrel(0), 3);
        due("19: another", g.quarrel(1), 0);
        GlassEyes drawer = court(1, 1, 2);
        drawer.put(0, 0);
        drawer.touch(0, 0);
        drawer.put(0, -1);
        due("19: two in the drawer are no face", drawer.quarrel(-1), -1);
    }

    private static void promise20() {
        GlassEyes g = court(1, 3, 1);
        due("20: none", g.shown(-1), 0);
        due("20: 3", g.shown(3), -2);
        due("20: -2", g.shown(-2), -2);
        due("20: far", g.shown(FAR), -2);
        due("20: one", g.shown(2), 1);
        due("20: two", g.shown(0), 2);
        due("20: about", g.about(7), 2);
        g.put(0, 0);
        g.touch(0, 0);
        g.touch(2, 0);
        due("20: latest first", g.how(0, 0, -1), 1);
        g.touch(1, 0);
        due("20: no more", g.how(0, 0, -1), 0);
        g.undo();
        due("20: three", g.shown(0), 3);
        due("20: not fewer", g.how(0, 0, -1), 0);
        due("20: four", g.shown(1), 4);
        due("20: a fifth", g.shown(1), -2);
        due("20: four yet", g.about(7), 4);
        due("20: nothing any more", g.shown(-1), 0);
        due("20: nothing", g.about(7), 0);
        due("20: it knows more than nothing", g.how(0, 0, -1), 0);
        g.polish(0);
        due("20: it knows nothing", g.how(0, 0, -1), 1);
    }

    private static void promise21() {
        GlassEyes g = court(3, 3, 2);
        int[][] others = {{2, 0, -1}, {-1, 0, -1}, {0, -1, -1}, {0, 4, -1}, {0, 1, -3}, {0, 1, 1}, {FAR, FAR, FAR}};
        for (int[] o : others) {
            due("21: others " + o[0] + " " + o[1] + " " + o[2], g.how(o[0], o[1], o[2]), -3);
        }
        due("21: nothing shown, in the drawer: all rows", g.how(0, 3, -1), 729);
        due("21: nobody surely", g.how(0, 3, -2), 0);
        due("21: first", g.how(0, 3, 0) + g.how(0, 3, 1) + g.how(0, 3, 2), 0);
        due("21: beyond", g.how(0, 3, 3), -3);
        g.put(0, 1);
        g.shown(2);
        due("21: 2 once by 1", g.how(0, 1, -1), 1);
        due("21: surely", g.how(0, 1, -2), 2);
        due("21: that touch", g.how(0, 1, 0), 10);
        due("21: among three: 3 * 6 * 6", g.how(0, 3, -1), 108);
        due("21: surely 1", g.how(0, 3, -2), 2);
        due("21: row", g.how(0, 3, 0) * 10000 + g.how(0, 3, 1) * 100 + g.how(0, 3, 2), 10);
        g.shown(1);
        due("21: two of one", g.how(0, 1, -1), 0);
        due("21: not sure", g.how(0, 1, -2), 0);
        due("21: no row", g.how(0, 1, 0), -3);
        due("21: 1 then 2", g.how(0, 2, 0) * 100 + g.how(0, 2, 1), 910);
        due("21: of the other eye", g.how(1, 2, -1), 0);
        due("21: nothing is changed", g.about(3) * 10 + g.about(6), 1);
        promise21Edges();
    }

    private static void promise21Edges() {
        GlassEyes zero = court(2, 2, 1);
        zero.put(0, 0);
        due("21: others' touch first, of courtier 1", zero.how(0, 2, 0) * 100 + zero.how(0, 2, 1), 808);
        due("21: by 1 alone, surely", zero.how(0, 2, -2), 2);
        due("21: how many", zero.how(0, 2, -1), 4);
        zero.shown(1);
        due("21: both surely", zero.how(0, 2, -2), 3);
        due("21: 1 by 0, anything by 1", zero.how(0, 2, 0) * 100 + zero.how(0, 2, 1), 108);
        GlassEyes lone = court(1, 2, 1);
        due("21: in the drawer, one courtier surely", lone.how(0, 2, -2), 1);
        lone.put(0, 0);
        due("21: no row leaves it knowing nothing", lone.how(0, 2, -1), 0);
        due("21: n 0", lone.how(0, 0, -1), 1);
        due("21: n 0, nobody", lone.how(0, 0, -2), 0);
        due("21: n 0, no touch", lone.how(0, 0, 0), -3);
        GlassEyes bare = court(2, 0, 1);
        due("21: without things", bare.how(0, 1, -1), 0);
        due("21: without things, n 0", bare.how(0, 0, -1), 1);
        GlassEyes full = court(6, 8, 1);
        due("21: all rows", full.how(0, 3, -1), 110592);
        GlassEyes late = court(1, 1, 1);
        touchTill(late, 997, 0, 0);
        due("21: to 999", late.how(0, 2, -1), 1);
        due("21: not beyond", late.how(0, 3, -1), 0);
        due("21: nor sure", late.how(0, 3, -2), 0);
        due("21: nor first", late.how(0, 3, 0), -3);
        promise21Laws();
    }

    private static void promise21Laws() {
        GlassEyes g = new GlassEyes(2);
        for (int i = 0; i < 3; i++) {
            g.thing(i);
        }
        g.eye(0, true);
        g.put(0, 1);
        g.shown(1);
        g.shown(1);
        due("21: chipped: one touch shows it twice", g.how(0, 1, -1), 1);
        due("21: never once", g.how(0, 1, 0), 9);
        read(g, "sees many = 0 and hour = 2 and who = 1 and kind = thing;");
        g.by(0);
        due("21: at hour 1 unseen", g.how(0, 1, -1), 0);
        due("21: at hour 2", g.how(0, 2, -1), 6);
        due("21: the first unseen", g.how(0, 2, 0) * 100 + g.how(0, 2, 1), 9);
        due("21: surely 1", g.how(0, 2, -2), 2);
        due("21: the third may be any", g.how(0, 3, -1), 36);
        due("21: the third unseen", g.how(0, 3, 2), 0);
    }

    private static void promise22() {
        GlassEyes g = court(2, 2, 3);
        due("22: no text", g.supper(0, 0, -1), -1);
        g.put(0, 0);
        g.put(1, 1);
        read(g, "touch 1 by 0;");
        g.shown(1);
        due("22: eye 1 came to 0 by one swap", g.supper(0, 1, -1), 1);
        due("22: which", g.supper(0, 1, 0), 1);
        due("22: no second", g.supper(0, 1, 1), -1);
        due("22: eye 0 if it was not swapped", g.supper(0, 0, -1), 1);
        due("22: the others", g.supper(0, 0, 0), 10);
        due("22: eye 2", g.supper(0, 2, 0), 2);
        g.shown(-1);
        due("22: nothing: eye 2 by two", g.supper(0, 2, -1), 2);
        due("22: first", g.supper(0, 2, 0), 1);
        due("22: second", g.supper(0, 2, 1), 10);
        due("22: third", g.supper(0, 2, 2), -1);
        int[][] others = {{1, 0, -1}, {-1, 0, -1}, {0, 3, -1}, {0, -1, -1}, {0, 0, -2}, {0, 0, DEEP}, {FAR, FAR, FAR}};
        for (int[] o : others) {
            due("22: others", g.supper(o[0], o[1], o[2]), -1);
        }
        due("22: nothing is changed", g.of(0, 4) * 100 + g.of(1, 4) * 10 + g.about(6), 12);
        GlassEyes lone = court(1, 1, 1);
        read(lone, "");
        due("22: one eye", lone.supper(0, 0, -1), 0);
        GlassEyes all = court(1, 1, 8);
        read(all, "");
        due("22: all twos", all.supper(0, 0, -1), 28);
        due("22: the last", all.supper(0, 0, 27), 55);
        due("22: beyond", all.supper(0, 0, 28), -1);
        GlassEyes since = court(2, 1, 2);
        read(since, "sees since = 1; touch 0 by 1;");
        since.by(0);
        since.touch(0, 0);
        since.put(0, 0);
        since.put(1, 1);
        since.touch(0, 0);
        since.shown(0);
        due("22: seen twice, not once", since.supper(0, 0, -1), 0);
        since.shown(0);
        due("22: since the hour of the swap", since.supper(0, 0, -1), 1);
    }

    private static void promise23and24() {
        GlassEyes g = court(2, 2, 2);
        read(g, "rubs 4;");
        g.by(0);
        g.put(0, 0);
        g.touch(1, 0);
        g.shown(1);
        due("23: hour", g.image(), 1);
        int[] stood = new int[30];
        for (int what = 0; what < 30; what++) {
            stood[what] = g.about(what);
        }
        g.thing(3);
        g.eye(3, true);
        g.put(2, 1);
        g.swap(0, 1);
        g.touch(2, 1);
        read(g, "rubs 6;");
        g.by(1);
        g.shown(0);
        for (int i = 0; i < 40; i++) {
            g.touch(0, 0);
        }
        feedAll(g, "polish 9;");
        due("24: hour", g.back(), 1);
        for (int what = 0; what < 30; what++) {
            due("24: about " + what, g.about(what), what == 8 ? 9 : stood[what]);
        }
        knows("24", g, 0, 1);
        due("24: rubs", g.of(0, 8), 4);
        due("24: the tape is as it was", g.text(), -1);
        due("24: with its fault", g.fault(0) * 100 + g.fault(1), 207);
        due("24: shown", g.how(0, 0, -1), 1);
        due("24: steps are those", g.undo(), 1);
        knows("24: and can be taken back", g, 0);
        due("24: once more", g.undo(), 0);
        due("24: no more", g.undo(), -1);
        due("24: it stays", g.back(), 1);
        due("24: steps are there again", g.about(6), 2);
        knows("24: again", g, 0, 1);
        due("24: a text in the place of one that went", read(g, "rubs 8;"), 1);
        g.by(1);
        due("24: it is this", g.of(0, 8), 8);
        due("24: a new eye is new", g.eye(2, false), 2);
        due("24: in the drawer", g.of(2, 4), -1);
        g.touch(0, 0);
        due("23: another image", g.image(), 2);
        g.touch(0, 0);
        due("24: to that one", g.back(), 2);
        due("24: with its texts", g.about(4) * 10 + g.about(5), 21);
    }

    private static void promise24Past() {
        GlassEyes g = court(1, 2, 1);
        g.put(0, 0);
        for (int i = 0; i < 35; i++) {
            g.touch(i % 2, 0);
        }
        g.image();
        for (int i = 0; i < 25; i++) {
            g.touch(1, 0);
        }
        g.back();
        due("24: thirty steps", g.about(6), 30);
        for (int i = 34; i >= 5; i--) {
            g.undo();
            due("24: hour taken back", g.about(3), i);
            knows("24: as it was", g, 0, (i + 1) % 2, i % 2, (i + 1) % 2, i % 2);
        }
        due("24: no more", g.undo(), -1);
    }

    private static void promise25() {
        GlassEyes g = court(5, 3, 4);
        g.put(1, 4);
        g.put(3, 4);
        g.put(0, 2);
        g.touch(0, 0);
        read(g, "");
        g.by(0);
        g.shown(2);
        g.feed(0, 0, 0, 0, 0);
        int[] first = {5, 3, 4, 1, 1, 0, 4, 1, 20, -2, 0, 1, 2, -2, -2, -2, -2, -2, -2, -2, 0, 0, 1, 0, 10, -2};
        for (int what = 0; what < first.length; what++) {
            due("25: about " + what, g.about(what), first[what]);
        }
        for (int what : new int[] {-1, -2, 18, 19, 26, 27, 28, 100, FAR, DEEP}) {
            due("25: others " + what, g.about(what), -2);
        }
        GlassEyes full = court(6, 8, 8);
        due("25: thing 7", full.about(17), 3);
        due("25: 18", full.about(18), -2);
        due("25: 19", full.about(19), -2);
        due("25: courtier 5", full.about(25), 0);
        due("25: 26", full.about(26), -2);
        full.put(7, 5);
        full.put(6, 5);
        due("25: what they wear", full.about(25), 192);
    }

    // ---- the language of part II

    private static void goodTexts() {
        good("");
        good(" \n\n ");
        good("touch 7 by 5;put 7 on 5;drawer 7;swap 7 with 7;polish 7;");
        good("touch7by5;put0on0;");
        good("touch 00000000000000000000007 by 0;");
        good("sees eye=colour or chipped#hour and since<many or not thing<=kind and who>0 or 1>=2;rubs eye+colour*chipped/hour-since;");
        good("rubs 9999;");
        good("rubs 00000009999;");
        good("rubs " + times(8, "(") + "1" + times(8, ")") + ";");
        good("rubs " + times(8, "-") + "1;");
        good("sees " + times(8, "not ") + "1 = 1;");
        good("sees not not not not - ( - ( 1 ) ) = - ( - ( 2 ) ) and not not not not ((((1)))) = 1;");
        good("rubs (1) + (2) * (3) - (4) / (5) + (6) * (7) - (8) + (9) - (10);");
        good("rubs - 1 - - 1 - - - 1;");
        good(times(24, "polish 1;"));
        good(times(22, "polish 1;") + "rubs 1;sees 1=1;");
        good("rubs 1 ; sees 1 = 1 ;" + times(279, " "));
        good("rubs many;sees who=thing;");
    }

    private static void badTexts() {
        // 1: it can't stand there, or is none
        bad("x", 1, 0);
        bad("  ;", 1, 2);
        bad("7", 1, 0);
        bad("99999", 1, 0);
        bad("Polish 1;", 1, 0);
        for (String letter : new String[] {"a", "z", "A", "Z"}) {
            bad("polish" + letter + " 1;", 1, 0);
            bad(letter + "polish 1;", 1, 0);
        }
        for (String sign : new String[] {"`", "{", "@", "["}) {
            bad("polish" + sign + " 1;", 1, 6);
        }
        bad("polish 1/", 1, 8);
        bad("polish 1:", 1, 8);
        bad("polish1 ;x", 1, 9);
        bad("polish;", 1, 6);
        bad("polish 1", 1, 8);
        bad("polish 1  \n", 1, 11);
        bad("polish", 1, 6);
        bad("polish 1 1;", 1, 9);
        bad("polish 1;;", 1, 9);
        bad("polish -1;", 1, 7);
        bad("polish eye;", 1, 7);
        bad("touch 1 on 1;", 1, 8);
        bad("touch 1 by;", 1, 10);
        bad("put 1 by 1;", 1, 6);
        bad("swap 1 by 1;", 1, 7);
        bad("drawer 1 on 1;", 1, 9);
        bad("polish\t1;", 1, 6);
        bad("polish 1;\r", 1, 9);
        bad("polish 1;\0", 1, 9);
        bad("polish 1;" + (char) 233, 1, 9);
        bad("sees ;", 1, 5);
        bad("sees 1;", 1, 6);
        bad("sees (1 = 1);", 1, 8);
        bad("sees 1 = 1 = 1;", 1, 11);
        bad("sees 1 == 1;", 1, 8);
        bad("sees 1 =< 1;", 1, 8);
        bad("sees 1 < = 1;", 1, 9);
        bad("sees 1 = 1 or;", 1, 13);
        bad("sees 1 = 1 and or 1 = 1;", 1, 15);
        bad("sees 1 = not 1;", 1, 9);
        bad("sees 1 ! 1;", 1, 7);
        bad("rubs not 1;", 1, 5);
        bad("rubs 1 = 1;", 1, 7);
        bad("rubs + 1;", 1, 5);
        bad("rubs 1 +;", 1, 8);
        bad("rubs (1;", 1, 7);
        bad("rubs 1);", 1, 6);
        bad("rubs ();", 1, 6);
        bad("rubs 1 2;", 1, 7);
        bad("rubs 1 eye;", 1, 7);
        bad("rubs 1 thing;", 1, 7);
        bad("rubs 1 10000;", 1, 7);
        bad("rubs sees;", 1, 5);
        bad("rubs eyes;", 1, 5);
        bad("rubs 1a;", 1, 6);
        bad("touch 1 12345 by 1;", 1, 8);
        moreBadTexts();
    }

    private static void moreBadTexts() {
        // 2: a number that isn't one of those told
        bad("touch 8 by 0;", 2, 6);
        bad("touch 0 by 6;", 2, 11);
        bad("put 8 on 0;", 2, 4);
        bad("put 0 on 6;", 2, 9);
        bad("drawer 8;", 2, 7);
        bad("swap 8 with 0;", 2, 5);
        bad("swap 0 with 8;", 2, 12);
        bad("polish 10000;", 2, 7);
        bad("rubs 10000;", 2, 5);
        bad("sees 1 = 010000;", 2, 9);
        bad("rubs 4294967297;", 2, 5);
        bad("rubs 18446744073709551617;", 2, 5);
        bad("polish 8 8", 2, 7);
        // 3: the 9th that is open
        bad("rubs " + times(9, "(") + "1" + times(9, ")") + ";", 3, 13);
        bad("rubs " + times(9, "-") + "1;", 3, 13);
        bad("sees " + times(9, "not ") + "1 = 1;", 3, 37);
        bad("sees " + times(4, "not ") + "1 = ----(1);", 3, 29);
        bad("sees not not not not not not not - - 1 = 1;", 3, 35);
        bad("rubs " + times(8, "(") + "not 1;", 1, 13);
        bad("rubs " + times(8, "(") + "1 + -1;", 3, 17);
        bad("rubs " + times(8, "(") + "1 + thing;", 5, 17);
        // 4: a law for the second time
        bad("sees 1=1;sees 1=1;", 4, 9);
        bad("rubs 1;polish 1;rubs", 4, 16);
        bad(times(23, "polish 1;") + "rubs 1;rubs 1;", 4, 214);
        // 5: a name of the other clause
        bad("rubs thing;", 5, 5);
        bad("rubs 1 + kind;", 5, 9);
        bad("rubs (who", 5, 6);
        bad("sees who = 1; rubs who;", 5, 19);
        // 6: the 25th clause
        bad(times(25, "polish 1;"), 6, 216);
        bad(times(24, "polish 1;") + " rubs 1;", 6, 217);
        bad(times(24, "polish 1;") + "x", 1, 216);
        bad(times(24, "polish 1;") + "polish 9;", 6, 216);
        // the first of several
        bad("polish 9; rubs ! thing", 2, 7);
        bad("rubs thing 10000", 5, 5);
        bad("polish 1 " + times(290, "!"), 1, 9);
        bad("rubs 1;" + times(292, " ") + "x", 1, 299);
    }

    private static void values() {
        due("II: from the left", rubs("20 - 5 - 4"), 11);
        due("II: products first", rubs("2 + 3 * 4 - 6 / 4 * 2"), 12);
        due("II: left of / and *", rubs("60 / 4 * 2 / 5"), 6);
        due("II: brackets", rubs("(2 + 3) * (4 - 1)"), 15);
        due("II: cuts towards 0", rubs("10 + -7 / 2"), 7);
        due("II: cuts towards 0, both below", rubs("-7 / -2"), 3);
        due("II: by 0", rubs("5 + 7 / 0"), 5);
        due("II: by 0, once more", rubs("5 + (7 - 9) / (3 - 3)"), 5);
        due("II: - binds nearest", rubs("- 2 * - 3"), 6);
        due("II: - -", rubs("8 - -3"), 11);
        due("II: above 1000000", rubs("9999 * 9999 / 9999"), 99);
        due("II: just 1000000", rubs("9999 * 9999 - 9999 * 100 - 40"), 60);
        due("II: at each step", rubs("(9999 * 9999 + 50 - 9999 * 100) - 50"), 50);
        due("II: below", rubs("-9999 * 9999 + 9999 * 100 + 150"), 50);
        due("II: wide product", rubs("(1000 * 1000) * (1000 * 1000) / 5000 / 4"), 50);
        due("II: wide product below", rubs("(1000 * 1000) * -(1000 * 1000) / -5000 / 4"), 50);
        due("II: a sum above", rubs("(1000 * 1000 + 9999 - 1000 * 999) / 100"), 10);
        due("II: leading noughts", rubs("00012"), 12);
        due("II: and binds nearer, true", sees("1 = 1 or 1 = 2 and 1 = 2"), 1);
        due("II: and binds nearer, false", sees("1 = 2 and 1 = 1 or 1 = 2"), 0);
        due("II: and or and", sees("1 = 2 and 1 = 1 or 1 = 1 and 2 = 2"), 1);
        due("II: or and", sees("1 = 2 or 1 = 1 and 1 = 2"), 0);
        due("II: three ors", sees("1 = 2 or 1 = 3 or 1 = 1"), 1);
        due("II: three ands", sees("1 = 1 and 2 = 2 and 1 = 3"), 0);
        due("II: or, and, or", sees("1 = 2 or 1 = 1 and 1 = 1 or 1 = 2"), 1);
        due("II: not of one ask", sees("not 1 = 2 and 1 = 1"), 1);
        due("II: not of one ask alone", sees("not 1 = 1 or 1 = 1"), 1);
        due("II: not not", sees("not not 1 = 1"), 1);
        int[][] pairs = {{1, 2}, {2, 2}, {3, 2}};
        String[] signs = {"<", "<=", ">", ">=", "=", "#"};
        int[][] holds = {{1, 0, 0}, {1, 1, 0}, {0, 0, 1}, {0, 1, 1}, {0, 1, 0}, {1, 0, 1}};
        for (int s = 0; s < signs.length; s++) {
            for (int p = 0; p < pairs.length; p++) {
                String ask = pairs[p][0] + signs[s] + pairs[p][1];
                due("II: " + ask, sees(ask), holds[s][p]);
            }
        }
    }

    private static void names() {
        String[] asks = {"eye = 2", "colour = 3", "chipped = 1", "hour = 4", "since = 3", "many = 2", "thing = 5",
            "kind = 2", "who = 1"};
        for (String ask : asks) {
            for (int negative = 0; negative < 2; negative++) {
                GlassEyes g = new GlassEyes(2);
                for (int i = 0; i < 6; i++) {
                    g.thing(i == 5 ? 2 : 0);
                }
                g.eye(0, false);
                g.eye(0, false);
                g.eye(3, true);
                read(g, "sees " + (negative == 1 ? "not " : "") + ask + ";");
                g.touch(0, 0);
                g.put(2, 1);
                g.touch(0, 1);
                g.touch(0, 0);
                g.by(0);
                due("II: " + ask, g.touch(5, 1), 1 - negative);
            }
        }
        String[] sums = {"eye", "colour", "chipped", "hour", "since", "many"};
        int[] worth = {2, 3, 1, 3, 2, 2};
        for (int i = 0; i < sums.length; i++) {
            GlassEyes g = court(2, 1, 2);
            g.eye(3, true);
            read(g, "rubs " + sums[i] + ";");
            g.by(0);
            g.touch(0, 0);
            g.put(2, 1);
            g.touch(0, 1);
            g.touch(0, 0);
            due("II: rubs " + sums[i], g.of(2, 8), worth[i]);
        }
    }

    public static void main(String[] args) {
        promise1();
        promise2();
        promise3();
        promise4();
        promise5();
        promise6();
        promise7();
        promise8();
        promise9();
        promise10();
        promise11();
        promise12();
        promise13();
        promise13Ends();
        promise14();
        promise15();
        promise16();
        promise17();
        promise18();
        promise19();
        promise20();
        promise21();
        promise22();
        promise23and24();
        promise24Past();
        promise25();
        goodTexts();
        badTexts();
        values();
        names();
        finish();
    }
}
