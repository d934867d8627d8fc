import java.util.Random;

/** Texts drawn at random: good ones, and ones that were spoilt at some place. */
final class Texts {
    private static final String[] TOKENS = {"sees", "rubs", "touch", "put", "drawer", "swap", "polish", "by", "on",
        "with", "or", "and", "not", "eye", "colour", "chipped", "hour", "since", "many", "thing", "kind", "who",
        "<", "<=", ">", ">=", "=", "#", "+", "-", "*", "/", "(", ")", ";", "0", "1", "5", "6", "7", "8", "9999",
        "10000", "00007", "99999999999999", "foo", "Sees", "!", "\t", "\u00e9", "_", "seesx", "e", "\n", "\0"};

    private final Random random;
    private final Oracle oracle;
    private boolean inSees = false;

    Texts(Random random, Oracle oracle) {
        this.random = random;
        this.oracle = oracle;
    }

    String any() {
        switch (random.nextInt(6)) {
            case 0: return cut(soup());
            case 1: return cut(deep());
            case 2: case 3: return cut(spoilt());
            case 4: return cut(crowd());
            default: return good();
        }
    }

    /** Without a fault, if it is short enough. */
    String good() {
        String text = clauses(1 + random.nextInt(9));
        for (int i = 0; i < 50 && text.length() > 300; i++) {
            text = clauses(1 + random.nextInt(6));
        }
        return cut(text);
    }

    private static String cut(String text) {
        return text.length() > 300 ? text.substring(0, 300) : text;
    }

    private String clauses(int many) {
        int sees = random.nextInt(many + 1);
        int rubs = random.nextInt(many + 1);
        StringBuilder b = new StringBuilder();
        for (int i = 0; i < many; i++) {
            if (i == sees) {
                inSees = true;
                b.append("sees").append(gap()).append(either()).append(blank()).append(";").append(blank());
            }
            if (i == rubs) {
                inSees = false;
                b.append("rubs").append(gap()).append(sum(2)).append(blank()).append(";").append(blank());
            }
            b.append(deed()).append(blank()).append(";").append(blank());
        }
        return b.toString();
    }

    private String deed() {
        int eye = random.nextInt(10) == 0 ? random.nextInt(8) : random.nextInt(Math.max(1, oracle.about(2)));
        int other = random.nextInt(10) == 0 ? random.nextInt(8) : random.nextInt(Math.max(1, oracle.about(2)));
        int thing = random.nextInt(10) == 0 ? random.nextInt(8) : random.nextInt(Math.max(1, oracle.about(1)));
        int who = random.nextInt(10) == 0 ? random.nextInt(6) : random.nextInt(oracle.courtiers);
        switch (random.nextInt(10)) {
            case 0: case 1: return "put" + blank() + eye + blank() + "on" + blank() + who;
            case 2: return "drawer " + eye;
            case 3: case 4: return "swap " + eye + gap() + "with" + gap() + other;
            case 5: return "polish" + gap() + "0" + eye;
            default: return "touch" + blank() + thing + blank() + "by" + blank() + who;
        }
    }

    private String blank() {
        return random.nextInt(4) == 0 ? gap() : "";
    }

    private String gap() {
        return random.nextInt(5) == 0 ? "\n" : " ";
    }

    private String either() {
        StringBuilder b = new StringBuilder(ask());
        for (int i = random.nextInt(3); i > 0; i--) {
            b.append(random.nextBoolean() ? " or " : " and ").append(ask());
        }
        return b.toString();
    }

    private String ask() {
        String[] signs = {"<", "<=", ">", ">=", "=", "#"};
        String ask = sum(1) + blank() + signs[random.nextInt(6)] + blank() + sum(1);
        return random.nextInt(4) == 0 ? "not " + ask : ask;
    }

    private String sum(int more) {
        String[] signs = {"+", "-", "*", "/"};
        StringBuilder b = new StringBuilder(one(more));
        for (int i = random.nextInt(more + 1); i > 0; i--) {
            b.append(blank()).append(signs[random.nextInt(4)]).append(blank()).append(one(more));
        }
        return b.toString();
    }

    private String one(int more) {
        String[] names = {"eye", "colour", "chipped", "hour", "since", "many", "thing", "kind", "who"};
        switch (random.nextInt(7)) {
            case 0: return more > 0 ? "(" + sum(more - 1) + ")" : "3";
            case 1: return "-" + blank() + one(Math.max(0, more - 1));
            case 2: return "" + random.nextInt(4);
            case 3: return "" + (random.nextInt(6) == 0 ? random.nextInt(10000) : random.nextInt(9));
            default: return names[random.nextInt(inSees ? 9 : 6)];
        }
    }

    private String soup() {
        StringBuilder b = new StringBuilder();
        for (int i = random.nextInt(12); i > 0; i--) {
            b.append(TOKENS[random.nextInt(TOKENS.length)]).append(random.nextInt(3) == 0 ? "" : " ");
        }
        return b.toString();
    }

    /** Signs that open one another, about as deep as they may. */
    private String deep() {
        StringBuilder b = new StringBuilder("sees ");
        int depth = 6 + random.nextInt(4);
        int nots = random.nextInt(depth + 1);
        int closes = 0;
        for (int i = 0; i < depth; i++) {
            if (i < nots) {
                b.append("not ");
            } else if (random.nextBoolean()) {
                b.append("(");
                closes++;
            } else {
                b.append("- ");
            }
        }
        b.append("kind");
        for (int i = 0; i < closes; i++) {
            b.append(random.nextInt(4) == 0 ? "+1)" : ")");
        }
        return b + (random.nextBoolean() ? " < " : " # -") + sum(1) + " or " + ask() + ";";
    }

    private String spoilt() {
        String text = good();
        int at = random.nextInt(text.length() + 1);
        String with = TOKENS[random.nextInt(TOKENS.length)];
        switch (random.nextInt(4)) {
            case 0: return text.substring(0, at);
            case 1: return text.substring(0, at) + " " + with + " " + text.substring(at);
            case 2: return text.substring(0, at) + with + text.substring(Math.min(text.length(), at + 1));
            default: return text.substring(0, at) + text.substring(Math.min(text.length(), at + 1 + random.nextInt(4)));
        }
    }

    /** About as many clauses as there may be. */
    private String crowd() {
        StringBuilder b = new StringBuilder();
        int many = 22 + random.nextInt(5);
        int rubs = random.nextInt(30);
        for (int i = 0; i < many; i++) {
            if (i == rubs || i == 24 && random.nextInt(3) == 0) {
                b.append("rubs eye;");
            } else {
                b.append(random.nextBoolean() ? "polish " : "drawer ").append(random.nextInt(random.nextInt(9) == 0 ? 9 : 8)).append(";");
            }
        }
        return b.toString();
    }
}
