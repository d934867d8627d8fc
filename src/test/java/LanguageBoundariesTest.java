/** The sentences of part II of the Terms, the language, that name a boundary, each with a test of its own. */
public final class LanguageBoundariesTest extends Bench {

    private static boolean isLetter(int sign) {
        return sign >= 'a' && sign <= 'z' || sign >= 'A' && sign <= 'Z';
    }

    private static boolean isDigit(int sign) {
        return sign >= '0' && sign <= '9';
    }

    // ---- texts and tokens

    private static void fourTexts() {
        GlassEyes g = court(1, 0, 1);
        for (int i = 0; i < 4; i++) {
            due("not told yet " + i, g.by(i), false);
            due("told " + i, read(g, "rubs " + (i + 5) + ";"), i);
        }
        due("no fifth", read(g, ""), NONE);
        for (int i = 0; i < 4; i++) {
            g.by(i);
            due("it rules " + i, g.of(0, 8), i + 5);
        }
        due("4 is none", g.by(4), false);
    }

    private static void threeHundredBytes() {
        good("polish 1;" + times(291, " "));
        good(times(291, "\n") + "polish 1;");
        bad("polish 1;" + times(290, " ") + ";", 1, 299);
        bad(times(292, " ") + "polish 1", 1, 300);
        bad("polish 1" + times(292, " "), 1, 300);
        due("a sum of 147 numbers in 300 bytes", rubs(times(73, "0+") + times(73, "1+") + "0 "), 73);
        due("one number of 294 digits in 300 bytes", rubs(times(292, "0") + "42"), 42);
        bad(times(293, " ") + "sees 1<", 1, 300);
        bad(times(293, " ") + "sees 1>", 1, 300);
        bad(times(292, " ") + "sees 1<=", 1, 300);
        bad(times(300, "a"), 1, 0);
        bad(times(300, "7"), 1, 0);
        bad(times(300, "!"), 1, 0);
        bad(times(300, "("), 1, 0);
    }

    private static void blanks() {
        for (int sign = 0; sign < 256; sign++) {
            if (sign == 32 || sign == 10) {
                good("polish 1;" + (char) sign);
                good((char) sign + "polish" + (char) sign + "1" + (char) sign + ";");
            } else {
                bad("polish 1;" + (char) sign, 1, 9);
                bad((char) sign + ";", 1, 0);
            }
        }
        bad("<\n= 1;", 1, 0);
        bad("sees 1 <\n= 1;", 1, 9);
        bad("pol ish 1;", 1, 0);
        bad("polish 1\n1;", 1, 9);
    }

    private static void letters() {
        for (int sign = 0; sign < 256; sign++) {
            String source = "polish" + (char) sign + " 1;";
            if (isLetter(sign)) {
                bad(source, 1, 0);
            } else if (sign == 32 || sign == 10) {
                good(source);
            } else {
                bad(source, isDigit(sign) && sign > '7' ? 2 : 1, isDigit(sign) && sign <= '7' ? 8 : 6);
            }
        }
        for (String word : new String[] {"Polish", "POLISH", "polisH", "polis", "olish", "p"}) {
            bad(word + " 1;", 1, 0);
        }
        good("polish1;touch1by1;swap1with1;put1on1;drawer1;");
    }

    private static void digits() {
        for (int sign = 0; sign < 256; sign++) {
            String source = "polish 1" + (char) sign + ";";
            if (isDigit(sign)) {
                bad(source, 2, 7);
            } else if (sign == 32 || sign == 10) {
                good(source);
            } else {
                bad(source, 1, sign == ';' ? 9 : 8);
            }
        }
        good("rubs 0;");
        good("rubs 9999;");
        bad("rubs 10000;", 2, 5);
        good("rubs 0000000000009999;");
        bad("rubs 0000000000010000;", 2, 5);
        due("0", rubs("0"), 0);
        due("9999", rubs("9999-9900"), 99);
        due("9998", rubs("9998-9900"), 98);
        for (String wide : new String[] {"2147483647", "2147483648", "4294967296", "4294967297", "9223372036854775808",
            "18446744073709551616", "18446744073709551617", times(290, "9"), "1" + times(280, "0")}) {
            bad("rubs " + wide + ";", 2, 5);
        }
    }

    private static void theLongest() {
        due("<= is one", sees("1<=1"), 1);
        due(">= is one", sees("1>=1"), 1);
        bad("sees 1< =1;", 1, 8);
        bad("sees 1> =1;", 1, 8);
        bad("sees 1<==1;", 1, 8);
        bad("sees 1>==1;", 1, 8);
        bad("sees 1=<1;", 1, 7);
        bad("sees 1=>1;", 1, 7);
        bad("sees 1<>1;", 1, 7);
        bad("sees 1<<1;", 1, 7);
        bad("sees 1##1;", 1, 7);
        bad("sees 1<", 1, 7);
        bad("sees 1<=", 1, 8);
        good("rubs(1)+(2)-(3)*(4)/(5);");
        good("sees 1<-1;");
        good("sees 1<=-1;");
    }

    private static void tokensOfTexts() {
        sentence("TEXTS 0 .. 3", LanguageBoundariesTest::fourTexts);
        sentence("of up to 300 bytes.", LanguageBoundariesTest::threeHundredBytes);
        sentence("TOKENS, blanks (32, 10) aside", LanguageBoundariesTest::blanks);
        sentence("letters a .. z, A .. Z one behind the other (one TOKEN)", LanguageBoundariesTest::letters);
        sentence("digits likewise (NUMBERS, 0 .. 9999)", LanguageBoundariesTest::digits);
        sentence("<= >= < > = # + - * / ( ) ; (the longest).", LanguageBoundariesTest::theLongest);
    }

    // ---- clauses

    private static void twentyFour() {
        good("");
        good("polish 0;");
        good(times(23, "polish 0;"));
        good(times(24, "polish 0;"));
        bad(times(25, "polish 0;"), 6, 216);
        bad(times(33, "polish 0;"), 6, 216);
        GlassEyes g = court(1, 1, 1);
        read(g, times(24, "touch0by0;"));
        due("all of them are played", g.played(0), NONE);
        due("24 touches", g.about(3), 24);
        GlassEyes laws = court(1, 1, 1);
        due("laws are among them", read(laws, "rubs 9;" + times(22, "touch0by0;") + "sees 1=2;"), 0);
        laws.by(0);
        laws.put(0, 0);
        due("rubs, the first", laws.of(0, 8), 9);
        due("sees, the last", laws.touch(0, 0), 0);
    }

    private static void eachOnce() {
        good("sees 1=1;rubs 1;");
        good("rubs 1;sees 1=1;");
        bad("sees 1=1;sees 1=1;", 4, 9);
        bad("rubs 1;rubs 1;", 4, 7);
        bad("sees 1=1;rubs 1;sees 1=1;", 4, 16);
        bad("rubs 1;sees 1=1;rubs 1;", 4, 16);
        good("polish 1;polish 1;drawer 1;drawer 1;swap 1 with 1;swap 1 with 1;");
    }

    private static void numbersOfClauses() {
        good("touch 0 by 0;put 0 on 0;drawer 0;swap 0 with 0;polish 0;");
        good("touch 7 by 5;put 7 on 5;drawer 7;swap 7 with 7;polish 7;");
        bad("touch 8 by 5;", 2, 6);
        bad("touch 7 by 6;", 2, 11);
        bad("put 8 on 5;", 2, 4);
        bad("put 7 on 6;", 2, 9);
        bad("drawer 8;", 2, 7);
        bad("swap 8 with 7;", 2, 5);
        bad("swap 7 with 8;", 2, 12);
        bad("polish 8;", 2, 7);
        GlassEyes g = court(6, 8, 8);
        read(g, "put 7 on 5;touch 6 by 5;swap 7 with 3;touch 2 by 5;put 6 on 4;drawer 3;");
        due("all can be", g.played(0), NONE);
        knows("thing 6 by courtier 5", g, 7, 6);
        knows("thing 2, once swapped", g, 3, 2);
        where("an eye on a courtier", g, 6, 4, 2);
        where("an eye to the drawer", g, 3, NONE, 2);
        where("it was swapped", g, 7, NONE, 1);
    }

    private static void chainsOfLaws() {
        good("sees 1=1;");
        bad("sees ;", 1, 5);
        good("sees 1=1" + times(41, " or 1=1") + ";");
        good("sees 1=1" + times(35, " and 1=1") + ";");
        due("the last of many or", sees("1=2" + times(40, " or 1=2") + " or 1=1"), 1);
        due("none of many or", sees("1=2" + times(41, " or 1=2")), 0);
        due("all of many and", sees("1=1" + times(35, " and 1=1")), 1);
        due("the last of many and", sees("1=1" + times(34, " and 1=1") + " and 1=2"), 0);
        due("the first of many and", sees("1=2" + times(34, " and 1=1")), 0);
        due("and is nearer than or, on the right", sees("1=1 or 1=1 and 1=2"), 1);
        due("and is nearer than or, on the left", sees("1=2 and 1=1 or 1=1"), 1);
        due("not is nearest", sees("not 1=2 and 1=2"), 0);
        due("not is nearest, of or", sees("not 1=1 or 1=1"), 1);
        due("or joins the ands on both sides", sees("1=1 and 1=2 or 1=2 and 1=1"), 0);
    }

    private static void comparisons() {
        String[] signs = {"<", "<=", ">", ">=", "=", "#"};
        int[] below = {1, 1, 0, 0, 0, 1};
        int[] like = {0, 1, 0, 1, 1, 0};
        int[] above = {0, 0, 1, 1, 0, 1};
        for (int i = 0; i < signs.length; i++) {
            asked("4" + signs[i] + "5", below[i]);
            asked("5" + signs[i] + "5", like[i]);
            asked("6" + signs[i] + "5", above[i]);
            asked("-1" + signs[i] + "0", below[i]);
            asked("-1" + signs[i] + "-1", like[i]);
            asked("-1" + signs[i] + "-2", above[i]);
        }
    }

    /** A comparison alone, under not, and beside one that is so and one that isn't. */
    private static void asked(String ask, int holds) {
        due(ask, sees(ask), holds);
        due("not " + ask, sees("not " + ask), 1 - holds);
        due("not not " + ask, sees("not not " + ask), holds);
        due(ask + " and so", sees(ask + " and 1=1"), holds);
        due("so and " + ask, sees("1=1 and " + ask), holds);
        due(ask + " or not so", sees(ask + " or 1=2"), holds);
    }

    private static void bothSides() {
        bad("sees 1=1 or thing=10000;", 2, 18);
        bad("sees 1=2 and thing=10000;", 2, 19);
        due("the right of or counts", sees("1=2 or 1=1"), 1);
        due("the left of or counts", sees("1=1 or 1=2"), 1);
        due("neither", sees("1=2 or 1=2"), 0);
        due("the right of and counts", sees("1=1 and 1=2"), 0);
        due("the left of and counts", sees("1=2 and 1=1"), 0);
        due("both", sees("1=1 and 1=1"), 1);
        due("by 0 on the side that can't matter", sees("1=1 or 1/0=1"), 1);
    }

    private static void clauses() {
        sentence("{CLAUSE}, 24 at most", LanguageBoundariesTest::twentyFour);
        sentence("sees EITHER ; or rubs SUM ; (each once)", LanguageBoundariesTest::eachOnce);
        sentence("or touch NUMBER by NUMBER ; (THING, COURTIER) or put NUMBER on NUMBER ; (EYE, COURTIER) or drawer"
                + " NUMBER ; (an EYE to it) or swap NUMBER with NUMBER ; (EYES) or polish NUMBER ;.",
                LanguageBoundariesTest::numbersOfClauses);
        sentence("EITHER: BOTH {or BOTH}. BOTH: ASK {and ASK}.", LanguageBoundariesTest::chainsOfLaws);
        sentence("ASK: not ASK, or SUM one of < <= > >= = # (unlike) SUM.", LanguageBoundariesTest::comparisons);
        sentence("or and and look at both sides always.", LanguageBoundariesTest::bothSides);
    }

    // ---- names

    private static void sinceAndHour() {
        GlassEyes g = court(1, 1, 2);
        read(g, "rubs since;");
        read(g, "sees since=1;");
        g.by(0);
        due("at first 0", g.of(0, 8), 0);
        g.touch(0, 0);
        due("an hour later, in the drawer", g.of(0, 8), 1);
        g.put(0, 0);
        due("put in now", g.of(0, 8), 0);
        g.by(1);
        due("at the first touch 1", g.touch(0, 0), 1);
        due("at the second 2", g.touch(0, 0), 0);
        g.swap(0, 1);
        g.by(0);
        due("swapped now", g.of(0, 8) * 100 + g.of(1, 8), 0);
        GlassEyes late = court(1, 1, 1);
        touchTill(late, 999, 0, 0);
        read(late, "rubs since-900;");
        read(late, "rubs hour-900;");
        late.by(1);
        due("999 hours", late.of(0, 8), 99);
        late.by(2);
        due("hour 999", late.of(0, 8), 99);
        late.undo();
        due("hour 998", late.of(0, 8), 98);
    }

    private static void manyKnown() {
        GlassEyes g = court(1, 1, 1);
        g.put(0, 0);
        read(g, "rubs many;");
        g.by(0);
        for (int i = 0; i <= 6; i++) {
            due("behind " + i + " touches", g.of(0, 8), Math.min(i, 4));
            g.touch(0, 0);
        }
        read(g, "sees many<4;");
        g.by(1);
        due("four are known", g.touch(0, 0), 0);
        g.polish(0);
        for (int i = 0; i < 4; i++) {
            due("fewer are known", g.touch(0, 0), 1);
        }
        due("four again", g.touch(0, 0), 0);
    }

    private static void oneOrNought() {
        GlassEyes g = court(1, 1, 1);
        g.eye(0, true);
        read(g, "rubs 5+chipped*3;");
        g.by(0);
        due("not", g.of(0, 8), 5);
        due("chipped", g.of(1, 8), 8);
    }

    private static void namesOfSees() {
        good("sees thing=kind and who=1;");
        bad("rubs thing;", 5, 5);
        bad("rubs kind;", 5, 5);
        bad("rubs who;", 5, 5);
        for (String name : new String[] {"eye", "colour", "chipped", "hour", "since", "many"}) {
            good("rubs " + name + ";");
            good("sees " + name + "=1;");
        }
        bad("sees who=1;rubs who;", 5, 16);
        good("rubs eye;sees who=1;");
        GlassEyes g = court(6, 8, 2);
        g.put(1, 5);
        read(g, "sees thing=7 and kind=3 and who=5 and eye=1 and colour=1;");
        g.by(0);
        due("the highest of each", g.touch(7, 5), 1);
        due("another thing of that kind", g.touch(3, 5), 0);
        g.put(0, 0);
        read(g, "sees thing=0 and kind=0 and who=0 and eye=0 and colour=0;");
        g.by(1);
        due("the lowest of each", g.touch(0, 0), 1);
        due("another thing of that kind", g.touch(4, 0), 0);
    }

    private static void names() {
        sentence("chipped (1, 0)", LanguageBoundariesTest::oneOrNought);
        sentence("hour, since (HOUR less that since which it is where it is)", LanguageBoundariesTest::sinceAndHour);
        sentence("many (how much it KNOWS) in both", LanguageBoundariesTest::manyKnown);
        sentence("thing, kind, who (the COURTIER) in sees.", LanguageBoundariesTest::namesOfSees);
    }

    // ---- sums

    private static void partsOfSums() {
        due("a number", rubs("7"), 7);
        due("a name", rubs("eye"), 0);
        due("( )", rubs("(7)"), 7);
        due("( ) in ( )", rubs("((7))"), 7);
        due("- of a number", rubs("8+-7"), 1);
        due("- of a name", rubs("8+-eye"), 8);
        due("- of ( )", rubs("8+-(3+4)"), 1);
        due("- of -", rubs("8+--7"), 15);
        due("- of one, not of the product", rubs("-2*-4"), 8);
        due("- of one, not of the sum", rubs("-2+9"), 7);
        due("a long sum", rubs("1" + times(70, "+1")), 71);
        due("a long product", rubs("2" + times(70, "*1")), 2);
        due("both in turn", rubs("0" + times(40, "+1*2")), 80);
        bad("rubs ;", 1, 5);
        bad("rubs 1+;", 1, 7);
        bad("rubs 1*;", 1, 7);
        bad("rubs -;", 1, 6);
        bad("rubs (;", 1, 6);
    }

    private static void fromTheLeft() {
        due("- and -", rubs("9-5-3"), 1);
        due("- and +", rubs("9-5+3"), 7);
        due("/ and *", rubs("9/2*2"), 8);
        due("* and /", rubs("9*2/2"), 9);
        due("/ and /", rubs("90/9/2"), 5);
        due("* is nearer than +", rubs("1+2*3"), 7);
        due("* is nearer than -, then on", rubs("10-2*3-1"), 3);
        due("( )", rubs("9-(5-3)"), 7);
    }

    private static void cutsTowardsNought() {
        due("7 / 2", rubs("7/2"), 3);
        due("-7 / 2", sees("-7/2=-3"), 1);
        due("7 / -2", sees("7/-2=-3"), 1);
        due("-7 / -2", sees("-7/-2=3"), 1);
        due("1 / 2", sees("1/2=0"), 1);
        due("-1 / 2", sees("-1/2=0"), 1);
        due("the least by -1", sees("(-1000*1000)/-1=1000*1000"), 1);
    }

    private static void byNought() {
        due("7 / 0", sees("7/0=0"), 1);
        due("-7 / 0", sees("-7/0=0"), 1);
        due("0 / 0", sees("0/0=0"), 1);
        due("by what comes to 0", sees("7/(1-1)=0"), 1);
        due("and on from there", rubs("7/0+5"), 5);
        due("by a name that is 0", rubs("7/hour+eye/eye"), 0);
    }

    private static void aboveAMillion() {
        // 1001 * 999 is 999999; 100 * 9999 is 999900.
        due("999999", sees("1001*999-100*9999=99"), 1);
        due("1000000", sees("1000*1000-100*9999=100"), 1);
        due("999999 + 1", sees("1001*999+1-100*9999=100"), 1);
        due("1000000 + 1", sees("1000*1000+1-100*9999=100"), 1);
        due("1000000 - -1", sees("1000*1000- -1-100*9999=100"), 1);
        due("1000 * 1001", sees("1000*1001-100*9999=100"), 1);
        due("9999 * 9999", sees("9999*9999-100*9999=100"), 1);
        due("the widest product", sees("1000*1000*1000*1000*1000-100*9999=100"), 1);
        due("of two such", sees("(1000*1000)*(1000*1000)=1000*1000"), 1);
        due("the widest sum", sees("1000*1000+1000*1000=1000*1000"), 1);
    }

    private static void belowTheSameLess() {
        due("-999999", sees("-1001*999+100*9999=-99"), 1);
        due("-1000000", sees("-1000*1000+100*9999=-100"), 1);
        due("-1000000 - 1", sees("-1000*1000-1+100*9999=-100"), 1);
        due("-1000000 + -1", sees("-1000*1000+ -1+100*9999=-100"), 1);
        due("-1000 * 1001", sees("-1000*1001+100*9999=-100"), 1);
        due("of two such", sees("(1000*1000)*(-1000*1000)=-1000*1000"), 1);
        due("of two below", sees("(-1000*1000)*(-1000*1000)=1000*1000"), 1);
        due("the widest difference", sees("-1000*1000-1000*1000=-1000*1000"), 1);
        due("the least turned round", sees("-(-1000*1000)=1000*1000"), 1);
    }

    private static void atEachStep() {
        due("cut ahead of -", sees("1000*1000+500-500=1000*1000-500"), 1);
        due("cut ahead of /", sees("2000*1000/2=500*1000"), 1);
        due("cut ahead of * by less", sees("1000*1000+500*1000=1000*1000"), 1);
        due("cut below ahead of +", sees("-1000*1000-500+500=500-1000*1000"), 1);
        due("cut within brackets", sees("(1000*1000+7)-7=1000*1000-7"), 1);
    }

    private static void sums() {
        sentence("SUM: PRODUCT {+ or - PRODUCT}. PRODUCT: ONE {* or / ONE}. ONE: NUMBER, NAME, ( SUM ), - ONE.",
                LanguageBoundariesTest::partsOfSums);
        sentence("From the left;", LanguageBoundariesTest::fromTheLeft);
        sentence("/ cuts towards 0,", LanguageBoundariesTest::cutsTowardsNought);
        sentence("by 0 it is 0;", LanguageBoundariesTest::byNought);
        sentence("what is above 1000000", LanguageBoundariesTest::aboveAMillion);
        sentence("(below the same less)", LanguageBoundariesTest::belowTheSameLess);
        sentence("is that, at each step.", LanguageBoundariesTest::atEachStep);
    }

    // ---- faults

    private static void firstComeTo() {
        bad("polish 8;polish x;", 2, 7);
        bad("polish x;polish 8;", 1, 7);
        bad("rubs thing+10000;", 5, 5);
        bad("rubs 10000+thing;", 2, 5);
        bad("polish 1 !;rubs who", 1, 9);
        bad("rubs who;!", 5, 5);
        bad("rubs 1;rubs (((((((((1;", 4, 7);
        bad("rubs (((((((((1;rubs 1", 3, 13);
        bad(times(24, "polish 0;") + "polish 8;!", 6, 216);
        bad("polish 8;" + times(24, "polish 0;"), 2, 7);
    }

    private static void firstByteAndEnd() {
        bad(" \n x", 1, 3);
        bad("   polish   99   ;", 2, 12);
        bad("polish", 1, 6);
        bad("polish ", 1, 7);
        bad("polish 1", 1, 8);
        bad("polish 1 \n ", 1, 11);
        bad("sees 1=1 or", 1, 11);
        bad("rubs (1", 1, 7);
        bad("rubs -", 1, 6);
        bad("sees not", 1, 8);
        bad("touch", 1, 5);
        bad("touch 1", 1, 7);
        bad("touch 1 by", 1, 10);
        bad("touch 1 by 1", 1, 12);
    }

    private static void theLeast() {
        // 1 ahead of 2: a number above 9999 where none can stand.
        bad("10000", 1, 0);
        bad("rubs 1 10000;", 1, 7);
        bad("touch 10000", 2, 6);
        // 1 ahead of 3: not in a sum, where eight are open.
        bad("rubs ((((((((not", 1, 13);
        bad("sees not not not not not not not not ((", 3, 37);
        // 1 ahead of 4, 5 and 6: a word where it can't stand.
        bad("rubs 1;polish rubs;", 1, 14);
        bad("rubs 1 who;", 1, 7);
        bad("rubs 1;who", 1, 7);
        bad(times(24, "polish 0;") + "who", 1, 216);
        bad(times(24, "polish 0;") + ";", 1, 216);
        bad(times(24, "polish 0;") + "9", 1, 216);
        // 4 ahead of 6.
        bad("rubs 1;" + times(23, "polish 0;") + "rubs 1;", 4, 214);
        bad("rubs 1;" + times(23, "polish 0;") + "sees 1=1;", 6, 214);
        bad("sees 1=1;" + times(23, "polish 0;") + "sees 1=1;", 4, 216);
        bad("sees 1=1;" + times(23, "polish 0;") + "rubs 1;", 6, 216);
    }

    private static void cantStandThere() {
        bad("!", 1, 0);
        bad("foo", 1, 0);
        bad("polish foo;", 1, 7);
        bad("rubs foo;", 1, 5);
        bad("sees foo=1;", 1, 5);
        bad("rubs !;", 1, 5);
        bad("rubs 1!;", 1, 6);
        bad("polish 1;\0", 1, 9);
        bad("by", 1, 0);
        bad("sees 1=1 and;", 1, 12);
        bad("sees (1=1);", 1, 7);
        bad("sees 1;", 1, 6);
        bad("rubs 1=1;", 1, 6);
        bad("rubs ();", 1, 6);
        bad("rubs 1));", 1, 6);
        bad("rubs ((1);", 1, 9);
        bad("rubs 1(1);", 1, 6);
        bad("rubs eye(1);", 1, 8);
        for (String sign : new String[] {"+", "*", "/", ")", "<", "<=", ">", ">=", "=", "#", ";"}) {
            bad("rubs " + sign + "1;", 1, 5);
            bad("rubs 1+" + sign + "1;", 1, 7);
            bad("rubs -" + sign + "1;", 1, 6);
        }
        for (String sign : new String[] {"(", ")", "<", "<=", ">", ">=", "=", "#", "1", "eye", "not 1", "and 1"}) {
            bad("rubs 1 " + sign + ";", 1, 7);
        }
        bad("touch 1 on 1;", 1, 8);
        bad("put 1 by 1;", 1, 6);
        bad("swap 1 on 1;", 1, 7);
        bad("drawer 1 by 1;", 1, 9);
        bad("polish -1;", 1, 7);
        bad("polish (1);", 1, 7);
    }

    private static void numbersNotTold() {
        GlassEyes g = new GlassEyes(1);
        due("those of a full court, of an empty one too", read(g, "touch 7 by 5;put 7 on 5;"), 0);
        for (String clause : new String[] {"touch @ by 0;", "put @ on 0;", "drawer @;", "swap @ with 0;", "polish @;"}) {
            int at = clause.indexOf('@');
            good(clause.replace("@", "7"));
            bad(clause.replace("@", "8"), 2, at);
            bad(clause.replace("@", "9999"), 2, at);
            bad(clause.replace("@", "10000"), 2, at);
            good(clause.replace("@", "0007"));
        }
        for (String clause : new String[] {"touch 0 by @;", "put 0 on @;"}) {
            int at = clause.indexOf('@');
            good(clause.replace("@", "5"));
            bad(clause.replace("@", "6"), 2, at);
        }
        good("swap 0 with 7;");
        bad("swap 0 with 8;", 2, 12);
        good("sees 9999=9999;");
        bad("sees 9999=10000;", 2, 10);
        bad("sees 10000=1;", 2, 5);
    }

    private static void theNinthOpen() {
        good("rubs " + times(8, "(") + "1" + times(8, ")") + ";");
        bad("rubs " + times(9, "(") + "1" + times(9, ")") + ";", 3, 13);
        good("rubs " + times(8, "-") + "1;");
        bad("rubs " + times(9, "-") + "1;", 3, 13);
        good("sees " + times(8, "not ") + "1=1;");
        bad("sees " + times(9, "not ") + "1=1;", 3, 37);
        good("sees " + times(3, "not ") + "--(((1)))=--(((1)));");
        bad("sees " + times(3, "not ") + "--((((1))))=1;", 3, 22);
        bad("sees " + times(3, "not ") + "1=--((((1))));", 3, 24);
        bad("sees " + times(3, "not ") + "1=1+--(((-1)));", 3, 26);
        bad("rubs " + times(20, "("), 3, 13);
        bad("sees 1=1 or " + times(9, "not ") + "1=1;", 3, 44);
        bad("sees 1=1 and " + times(9, "not ") + "1=1;", 3, 45);
        bad("sees 1=1 or 1=" + times(9, "(") + "1;", 3, 22);
        bad("rubs 1*" + times(9, "(") + "1;", 3, 15);
        bad("rubs 1-" + times(9, "-") + "1;", 3, 15);
    }

    private static void openAroundOneAnother() {
        good("rubs " + times(30, "(1)+") + "1;");
        good("rubs " + times(30, "-1-") + "1;");
        good("sees " + times(12, "not 1=1 and ") + "not 1=1;");
        good("rubs " + times(8, "(") + "1" + times(8, ")") + "+" + times(8, "(") + "1" + times(8, ")") + ";");
        good("rubs " + times(8, "-") + "1-" + times(8, "-") + "1;");
        good("sees " + times(8, "not ") + "1=1 or " + times(8, "not ") + "1=1;");
        bad("rubs " + times(7, "(") + "-1+(-1);", 3, 16);
        due("eight of ( and what they leave waiting",
                rubs(times(8, "1+1*(") + "1" + times(8, ")")), 9);
        due("the same on both sides, behind or and and",
                sees("1=2 or 1=1 and " + times(8, "1+1*(") + "1+1*1" + times(8, ")") + "="
                        + times(8, "1+1*(") + "1+1*1" + times(8, ")")), 1);
        due("eight of -", rubs("--------7"), 7);
        due("seven of -", rubs("10+-------7"), 3);
        due("eight of not", sees(times(8, "not ") + "1=1"), 1);
        due("seven of not", sees(times(7, "not ") + "1=1"), 0);
    }

    private static void secondTime() {
        bad("sees 1=1;sees", 4, 9);
        bad("rubs 1;\n rubs", 4, 9);
        bad("rubs 1;sees 1=1;sees 1=1;rubs 1;", 4, 16);
        GlassEyes g = new GlassEyes(1);
        read(g, "sees 1=1;rubs 1;");
        due("another text has its own", read(g, "sees 1=1;rubs 1;"), 1);
        read(g, "sees 1=1;rubs 1;x");
        due("one with a fault doesn't count", read(g, "sees 1=1;rubs 1;"), 2);
    }

    private static void namesElsewhere() {
        bad("rubs thing;", 5, 5);
        bad("rubs  1 - ( kind", 5, 12);
        bad("rubs -who;", 5, 6);
        bad("rubs eye*thing;", 5, 9);
        bad("rubs things;", 1, 5);
        bad("rubs Thing;", 1, 5);
    }

    private static void twentyFifth() {
        bad(times(24, "polish 0;") + "\n touch", 6, 218);
        bad(times(24, "polish 0;") + "sees", 6, 216);
        bad(times(24, "polish 0;") + "rubs", 6, 216);
        bad(times(24, "polish 0;") + "put", 6, 216);
        bad(times(24, "polish 0;") + "drawer", 6, 216);
        bad(times(24, "polish 0;") + "swap", 6, 216);
        good(times(24, "polish 0;") + "\n ");
        bad(times(23, "polish 0;") + "polish 0", 1, 215);
    }

    private static void faults() {
        sentence("FAULTS, the first as TOKENS are come to", LanguageBoundariesTest::firstComeTo);
        sentence("at the TOKEN's first byte (of the end at the length)", LanguageBoundariesTest::firstByteAndEnd);
        sentence("of one the least:", LanguageBoundariesTest::theLeast);
        sentence("1 it can't stand there, or is none.", LanguageBoundariesTest::cantStandThere);
        sentence("2 a NUMBER that isn't one of those told (above 9999; COURTIERS 0 .. 5, THINGS, EYES 0 .. 7).",
                LanguageBoundariesTest::numbersNotTold);
        sentence("3 the 9th of ( not and - (of one ONE)", LanguageBoundariesTest::theNinthOpen);
        sentence("that are open around one another (at it).", LanguageBoundariesTest::openAroundOneAnother);
        sentence("4 sees, rubs for the second time (at it).", LanguageBoundariesTest::secondTime);
        sentence("5 a NAME that isn't of that CLAUSE (at it).", LanguageBoundariesTest::namesElsewhere);
        sentence("6 the 25th CLAUSE (at its first TOKEN).", LanguageBoundariesTest::twentyFifth);
    }

    // ---- what a text does

    private static void noneRulesAtFirst() {
        GlassEyes g = court(1, 1, 1);
        due("at first", g.about(5), NONE);
        read(g, "sees 1=2;rubs 9;");
        due("told as a text, it doesn't rule", g.about(5), NONE);
        g.put(0, 0);
        due("all is seen", g.touch(0, 0), 1);
        due("rubs", g.of(0, 8), 1);
        g.by(0);
        due("nothing is seen", g.touch(0, 0), 0);
        due("rubs by it", g.of(0, 8), 9);
        g.by(NONE);
        due("all is seen again", g.touch(0, 0), 1);
        due("rubs again", g.of(0, 8), 1);
    }

    private static void inTheirOrder() {
        GlassEyes g = court(1, 2, 2);
        read(g, "sees 1=2;put0on0;touch0by0;rubs 9;polish0;touch1by0;swap0with1;touch0by0;drawer1;touch1by0;");
        due("what eye 0 knows", g.told(0, 0, 0) * 10 + g.told(0, 0, 1), 9);
        due("what eye 1 knows", g.told(0, 1, 0) * 10 + g.told(0, 1, 1), -1);
        read(g, "");
        due("of no clauses", g.told(1, 0, 0), NONE);
        due("played likewise", g.played(0), NONE);
        knows("eye 0", g, 0, 1);
        knows("eye 1", g, 1, 0);
        due("eight steps of ten clauses", g.about(6), 8);
    }

    private static void endsAtItsNumber() {
        for (int at = 0; at < 24; at++) {
            GlassEyes g = court(1, 1, 1);
            read(g, times(at, "touch0by0;") + "polish1;" + times(23 - at, "touch0by0;"));
            due("the clause that can't be", g.played(0), at);
            due("what was done stays", g.about(3), at);
            due("as steps", g.about(6), at);
        }
        GlassEyes laws = court(1, 1, 1);
        read(laws, "rubs 5;touch 0 by 0;sees 1=2;polish 1;touch 0 by 0;");
        due("laws count", laws.played(0), 3);
        due("they don't rule by that", laws.of(0, 8), 1);
        due("one touch", laws.about(3), 1);
        GlassEyes all = court(1, 1, 1);
        read(all, "");
        read(all, "rubs 5;sees 1=2;");
        due("no clauses", all.played(0), NONE);
        due("laws alone", all.played(1), NONE);
        due("no steps", all.about(6), 0);
    }

    private static void playedAsByHand() {
        String[] cant = {"touch1by0;", "touch0by1;", "put1on0;", "put0on1;", "put0on0;", "drawer1;", "swap0with0;",
            "swap0with1;", "swap1with0;", "polish1;"};
        for (String clause : cant) {
            GlassEyes g = court(1, 1, 1);
            g.put(0, 0);
            read(g, "polish0;" + clause + "polish0;");
            due("can't be: " + clause, g.played(0), 1);
            due("one step: " + clause, g.about(6), 2);
        }
        GlassEyes drawer = court(1, 1, 1);
        read(drawer, "drawer0;");
        due("it is in the drawer", drawer.played(0), 0);
        GlassEyes third = court(1, 1, 3);
        read(third, "put0on0;put1on0;put2on0;");
        due("a courtier wears two at most", third.played(0), 2);
        GlassEyes late = court(1, 1, 1);
        touchTill(late, 990, 0, 0);
        due("till hour 999", late.played(0), 9);
        due("it is 999", late.about(3), 999);
        due("at hour 999", late.played(0), 0);
    }

    private static void leftOut() {
        GlassEyes g = court(1, 2, 1);
        g.put(0, 0);
        read(g, "touch7by0;touch0by5;put0on0;put7on0;put0on5;drawer7;swap0with0;swap0with7;polish7;touch1by0;");
        due("it goes on", g.told(0, 0, 0), 1);
        due("with no more", g.told(0, 0, 1), NONE);
        due("nothing is changed", g.about(3) * 10 + g.about(6), 1);
        knows("nothing is changed", g, 0);
        due("as played it ends at once", g.played(0), 0);
        touchTill(g, 998, 0, 0);
        read(g, "touch1by0;touch0by0;drawer0;put0on0;");
        due("to hour 999", g.told(2, 0, 0), 1);
        due("no second one", g.told(2, 0, 1), 0);
        read(g, "touch1by0;touch0by0;polish0;touch1by0;");
        due("beyond hour 999 the rest goes on", g.told(3, 0, 0), NONE);
        due("the hour stays", g.about(3), 998);
    }

    private static void byTheTextThatRules() {
        GlassEyes g = court(1, 2, 1);
        g.put(0, 0);
        read(g, "sees thing=1;touch0by0;touch1by0;");
        read(g, "sees thing=0;");
        due("none rules", g.told(0, 0, 0) * 10 + g.told(0, 0, 1), 10);
        g.by(1);
        due("text 1 rules", g.told(0, 0, 0) * 10 + g.told(0, 0, 1), -1);
        g.by(0);
        due("its own rules", g.told(0, 0, 0) * 10 + g.told(0, 0, 1), 9);
    }

    private static void deeds() {
        sentence("THE TEXT (told; at first none) rules.", LanguageBoundariesTest::noneRulesAtFirst);
        sentence("A STORY is a TEXT: its touch, put, drawer, swap and polish clauses, in their order.",
                LanguageBoundariesTest::inTheirOrder);
        sentence("one that can't be ends it: its number among all CLAUSES (from 0); what was done stays.",
                LanguageBoundariesTest::endsAtItsNumber);
        sentence("PLAYED: as by hand;", LanguageBoundariesTest::playedAsByHand);
        sentence("what can't be is left out, and it goes on.", LanguageBoundariesTest::leftOut);
        sentence("TOLD as a STORY (nothing is changed): from how all stands, by THE TEXT that rules;",
                LanguageBoundariesTest::byTheTextThatRules);
    }

    public static void main(String[] args) {
        tokensOfTexts();
        clauses();
        names();
        sums();
        faults();
        deeds();
        finish();
    }
}
