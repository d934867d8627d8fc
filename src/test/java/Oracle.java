import java.util.ArrayDeque;
import java.util.ArrayList;
import java.util.Arrays;
import java.util.Deque;
import java.util.HashSet;
import java.util.List;
import java.util.Set;

/**
 * The document once more, written as plainly and slowly as can be, to compare GlassEyes with: lists for what
 * an eye knows, trees for laws, every row of touches tried one by one.
 */
final class Oracle {
    static final class Eye {
        int colour;
        boolean chipped;
        int worn = -1;
        int since = 0;
        List<Integer> knows = new ArrayList<>();

        Eye copy() {
            Eye eye = new Eye();
            eye.colour = colour;
            eye.chipped = chipped;
            eye.worn = worn;
            eye.since = since;
            eye.knows = new ArrayList<>(knows);
            return eye;
        }
    }

    static final class Fault extends RuntimeException {
        final int what;
        final int place;

        Fault(int what, int place) {
            this.what = what;
            this.place = place;
        }
    }

    interface Tree {
        long value(java.util.Map<String, Integer> names);
    }

    static final class Clause {
        String head;
        int one;
        int other;
        Tree law;
    }

    /** A court as it stands: hour and eyes. */
    static final class Court {
        int hour = 0;
        List<Eye> eyes = new ArrayList<>();

        Court copy() {
            Court court = new Court();
            court.hour = hour;
            for (Eye eye : eyes) {
                court.eyes.add(eye.copy());
            }
            return court;
        }
    }

    static final class State {
        List<Integer> kinds = new ArrayList<>();
        Court court = new Court();
        List<List<Clause>> texts = new ArrayList<>();
        int ruling = -1;
        List<Integer> shown = new ArrayList<>();
        Deque<Court> past = new ArrayDeque<>();

        State copy() {
            State state = new State();
            state.kinds = new ArrayList<>(kinds);
            state.court = court.copy();
            state.texts = new ArrayList<>(texts);
            state.ruling = ruling;
            state.shown = new ArrayList<>(shown);
            for (Court c : past) {
                state.past.addLast(c.copy());
            }
            return state;
        }
    }

    final int courtiers;
    State now = new State();
    State kept = new State();
    List<Integer> tape = new ArrayList<>();
    int fault = -1;
    int faultPlace = -1;

    Oracle(int courtiers) {
        this.courtiers = courtiers < 1 ? 1 : courtiers > 6 ? 6 : courtiers;
    }

    int thing(int kind) {
        if (kind < 0 || kind > 3 || now.kinds.size() == 8) {
            return -1;
        }
        now.kinds.add(kind);
        return now.kinds.size() - 1;
    }

    int eye(int colour, boolean chipped) {
        if (colour < 0 || colour > 3 || now.court.eyes.size() == 8) {
            return -1;
        }
        Eye eye = new Eye();
        eye.colour = colour;
        eye.chipped = chipped;
        now.court.eyes.add(eye);
        return now.court.eyes.size() - 1;
    }

    int feed(int a, int b, int c, int d, int e) {
        if (tape.size() > 280) {
            return -1;
        }
        for (int word : new int[] {a, b, c, d, e}) {
            tape.add(word >>> 24);
            tape.add(word >>> 16 & 255);
            tape.add(word >>> 8 & 255);
            tape.add(word & 255);
        }
        return tape.size();
    }

    int end(int n) {
        if (n < 0 || n > tape.size()) {
            return -1;
        }
        tape = new ArrayList<>(tape.subList(0, n));
        return n;
    }

    int text() {
        if (now.texts.size() == 4) {
            return -1;
        }
        List<Integer> bytes = tape;
        tape = new ArrayList<>();
        try {
            List<Clause> clauses = new Parser(bytes).clauses();
            fault = 0;
            faultPlace = -1;
            now.texts.add(clauses);
            return now.texts.size() - 1;
        } catch (Fault f) {
            fault = f.what;
            faultPlace = f.place;
            return -1;
        }
    }

    int fault(int what) {
        return what == 0 ? fault : what == 1 ? faultPlace : -1;
    }

    boolean by(int text) {
        if (text < -1 || text >= now.texts.size()) {
            return false;
        }
        now.ruling = text;
        return true;
    }

    // ---- steps

    private Eye eyeOf(Court court, int eye) {
        return eye >= 0 && eye < court.eyes.size() ? court.eyes.get(eye) : null;
    }

    private Tree law(String head) {
        if (now.ruling >= 0) {
            for (Clause c : now.texts.get(now.ruling)) {
                if (c.head.equals(head)) {
                    return c.law;
                }
            }
        }
        return null;
    }

    private java.util.Map<String, Integer> names(Court court, int number) {
        Eye eye = court.eyes.get(number);
        java.util.Map<String, Integer> names = new java.util.HashMap<>();
        names.put("eye", number);
        names.put("colour", eye.colour);
        names.put("chipped", eye.chipped ? 1 : 0);
        names.put("hour", court.hour);
        names.put("since", court.hour - eye.since);
        names.put("many", eye.knows.size());
        return names;
    }

    /** -1 if it can't be; else how many eyes saw it. */
    private int touchIn(Court court, int thing, int who) {
        if (thing < 0 || thing >= now.kinds.size() || who < 0 || who >= courtiers || court.hour == 999) {
            return -1;
        }
        court.hour++;
        Tree sees = law("sees");
        int seen = 0;
        for (int i = 0; i < court.eyes.size(); i++) {
            Eye eye = court.eyes.get(i);
            if (eye.worn != who) {
                continue;
            }
            if (sees != null) {
                java.util.Map<String, Integer> names = names(court, i);
                names.put("thing", thing);
                names.put("kind", now.kinds.get(thing));
                names.put("who", who);
                if (sees.value(names) == 0) {
                    continue;
                }
            }
            seen++;
            for (int k = 0; k < (eye.chipped ? 2 : 1); k++) {
                eye.knows.add(0, thing);
                if (eye.knows.size() > 4) {
                    eye.knows.remove(4);
                }
            }
        }
        return seen;
    }

    private boolean putIn(Court court, int number, int who) {
        Eye eye = eyeOf(court, number);
        if (eye == null || who < -1 || who >= courtiers || eye.worn == who) {
            return false;
        }
        if (who != -1 && wornBy(court, who).size() >= 2) {
            return false;
        }
        eye.worn = who;
        eye.since = court.hour;
        return true;
    }

    private List<Integer> wornBy(Court court, int who) {
        List<Integer> worn = new ArrayList<>();
        for (int i = 0; i < court.eyes.size(); i++) {
            if (court.eyes.get(i).worn == who) {
                worn.add(i);
            }
        }
        return worn;
    }

    private boolean swapIn(Court court, int one, int other) {
        Eye a = eyeOf(court, one);
        Eye b = eyeOf(court, other);
        if (a == null || b == null || a == b) {
            return false;
        }
        int worn = a.worn;
        a.worn = b.worn;
        b.worn = worn;
        a.since = court.hour;
        b.since = court.hour;
        return true;
    }

    private int polishIn(Court court, int number) {
        Eye eye = eyeOf(court, number);
        if (eye == null) {
            return -1;
        }
        int knew = eye.knows.size();
        eye.knows.clear();
        return knew;
    }

    private void step(Court before) {
        now.past.addLast(before);
        if (now.past.size() > 30) {
            now.past.removeFirst();
        }
    }

    int touch(int thing, int who) {
        Court before = now.court.copy();
        int seen = touchIn(now.court, thing, who);
        if (seen >= 0) {
            step(before);
        }
        return seen;
    }

    boolean put(int eye, int who) {
        Court before = now.court.copy();
        boolean done = putIn(now.court, eye, who);
        if (done) {
            step(before);
        }
        return done;
    }

    boolean swap(int one, int other) {
        Court before = now.court.copy();
        boolean done = swapIn(now.court, one, other);
        if (done) {
            step(before);
        }
        return done;
    }

    int polish(int eye) {
        Court before = now.court.copy();
        int knew = polishIn(now.court, eye);
        if (knew >= 0) {
            step(before);
        }
        return knew;
    }

    int played(int text) {
        if (text < 0 || text >= now.texts.size()) {
            return -2;
        }
        List<Clause> clauses = now.texts.get(text);
        for (int i = 0; i < clauses.size(); i++) {
            Clause c = clauses.get(i);
            boolean done = true;
            switch (c.head) {
                case "touch": done = touch(c.one, c.other) >= 0; break;
                case "put": done = put(c.one, c.other); break;
                case "drawer": done = put(c.one, -1); break;
                case "swap": done = swap(c.one, c.other); break;
                case "polish": done = polish(c.one) >= 0; break;
                default: break;
            }
            if (!done) {
                return i;
            }
        }
        return -1;
    }

    private void tell(Court court, int text) {
        for (Clause c : now.texts.get(text)) {
            switch (c.head) {
                case "touch": touchIn(court, c.one, c.other); break;
                case "put": putIn(court, c.one, c.other); break;
                case "drawer": putIn(court, c.one, -1); break;
                case "swap": swapIn(court, c.one, c.other); break;
                case "polish": polishIn(court, c.one); break;
                default: break;
            }
        }
    }

    int cat(int seed, int n) {
        int eyes = now.court.eyes.size();
        if (seed < 0 || seed > 9999 || n < 1 || n > 40 || eyes == 0) {
            return -1;
        }
        step(now.court.copy());
        long x = seed * 6L + 1;
        int count = 0;
        for (int i = 0; i < n; i++) {
            int a = (int) (x % eyes);
            x = (x * 211 + 83) % 30071;
            int b = (int) (x % eyes);
            if (swapIn(now.court, a, b)) {
                count++;
            }
            x = (x * 211 + 83) % 30071;
        }
        return count;
    }

    int undo() {
        if (now.past.isEmpty()) {
            return -1;
        }
        Court before = now.past.removeLast();
        Court after = now.court;
        for (int i = before.eyes.size(); i < after.eyes.size(); i++) {
            Eye eye = new Eye();
            eye.colour = after.eyes.get(i).colour;
            eye.chipped = after.eyes.get(i).chipped;
            before.eyes.add(eye);
        }
        now.court = before;
        return now.past.size();
    }

    // ---- what is asked

    private static int at(List<Integer> knows, int place) {
        return place < knows.size() ? knows.get(place) : -1;
    }

    private int rubs(int eye) {
        Tree rubs = law("rubs");
        if (rubs == null) {
            return 1;
        }
        long value = rubs.value(names(now.court, eye));
        return (int) (value < 0 ? 0 : value > 99 ? 99 : value);
    }

    int of(int number, int what) {
        Eye eye = eyeOf(now.court, number);
        if (eye == null || what < 0 || what > 8) {
            return -2;
        }
        if (what < 4) {
            return at(eye.knows, what);
        }
        return new int[] {eye.worn, eye.since, eye.colour, eye.chipped ? 1 : 0, rubs(number)}[what - 4];
    }

    int told(int text, int eye, int place) {
        if (text < 0 || text >= now.texts.size() || eyeOf(now.court, eye) == null || place < 0 || place > 3) {
            return -2;
        }
        Court court = now.court.copy();
        tell(court, text);
        return at(court.eyes.get(eye).knows, place);
    }

    int verdict(int texts) {
        if (texts < 0 || texts >= 1 << now.texts.size()) {
            return -1;
        }
        List<Court> behind = new ArrayList<>();
        for (int t = 0; t < now.texts.size(); t++) {
            if ((texts & 1 << t) != 0) {
                Court court = now.court.copy();
                tell(court, t);
                behind.add(court);
            }
        }
        int eyes = now.court.eyes.size();
        int best = -1;
        long bestKey = Long.MAX_VALUE;
        for (int set = 0; set < 1 << eyes; set++) {
            Set<List<List<Integer>>> seen = new HashSet<>();
            long price = 0;
            for (int e = 0; e < eyes; e++) {
                price += (set & 1 << e) != 0 ? rubs(e) : 0;
            }
            for (Court court : behind) {
                List<List<Integer>> known = new ArrayList<>();
                for (int e = 0; e < eyes; e++) {
                    if ((set & 1 << e) != 0) {
                        known.add(court.eyes.get(e).knows);
                    }
                }
                seen.add(known);
            }
            long key = (price * 100 + Integer.bitCount(set)) * 1000 + set;
            if (seen.size() == behind.size() && key < bestKey) {
                bestKey = key;
                best = set;
            }
        }
        return best;
    }

    int quarrel(int who) {
        if (who < 0 || who >= courtiers) {
            return -1;
        }
        List<Integer> worn = wornBy(now.court, who);
        int unlike = 0;
        for (int p = 0; worn.size() == 2 && p < 4; p++) {
            unlike += at(now.court.eyes.get(worn.get(0)).knows, p) != at(now.court.eyes.get(worn.get(1)).knows, p) ? 1 : 0;
        }
        return unlike;
    }

    int shown(int thing) {
        if (thing == -1) {
            now.shown.clear();
            return 0;
        }
        if (thing < 0 || thing >= now.kinds.size() || now.shown.size() == 4) {
            return -2;
        }
        now.shown.add(thing);
        return now.shown.size();
    }

    private int howMany;
    private int howSure;
    private List<Integer> howFirst;

    private void rows(Court court, int eye, int n, List<Integer> row) {
        if (row.size() == n) {
            if (court.eyes.get(eye).knows.equals(now.shown)) {
                int hands = 0;
                for (int touch : row) {
                    hands |= 1 << touch / 8;
                }
                howMany++;
                howSure &= hands;
                if (howFirst == null) {
                    howFirst = new ArrayList<>(row);
                }
            }
            return;
        }
        for (int who = 0; who < courtiers; who++) {
            for (int thing = 0; thing < now.kinds.size(); thing++) {
                Court next = court.copy();
                if (touchIn(next, thing, who) >= 0) {
                    row.add(8 * who + thing);
                    rows(next, eye, n, row);
                    row.remove(row.size() - 1);
                }
            }
        }
    }

    int how(int eye, int n, int what) {
        if (eyeOf(now.court, eye) == null || n < 0 || n > 3 || what < -2) {
            return -3;
        }
        howMany = 0;
        howSure = 63;
        howFirst = null;
        rows(now.court, eye, n, new ArrayList<>());
        if (what == -1) {
            return howMany;
        }
        if (what == -2) {
            return howMany == 0 ? 0 : howSure;
        }
        return howFirst == null || what >= n ? -3 : howFirst.get(what);
    }

    int supper(int text, int eye, int i) {
        if (text < 0 || text >= now.texts.size() || eyeOf(now.court, eye) == null || i < -1) {
            return -1;
        }
        List<Integer> twos = new ArrayList<>();
        for (int pair = 0; pair < 64; pair++) {
            if (pair / 8 < pair % 8 && pair % 8 < now.court.eyes.size()) {
                Court court = now.court.copy();
                swapIn(court, pair / 8, pair % 8);
                tell(court, text);
                if (court.eyes.get(eye).knows.equals(now.shown)) {
                    twos.add(pair);
                }
            }
        }
        return i == -1 ? twos.size() : i < twos.size() ? twos.get(i) : -1;
    }

    int image() {
        kept = now.copy();
        return now.court.hour;
    }

    int back() {
        now = kept.copy();
        return now.court.hour;
    }

    int about(int what) {
        switch (what) {
            case 0: return courtiers;
            case 1: return now.kinds.size();
            case 2: return now.court.eyes.size();
            case 3: return now.court.hour;
            case 4: return now.texts.size();
            case 5: return now.ruling;
            case 6: return now.past.size();
            case 7: return now.shown.size();
            case 8: return tape.size();
            default: break;
        }
        if (what >= 10 && what - 10 < Math.min(8, now.kinds.size())) {
            return now.kinds.get(what - 10);
        }
        if (what >= 20 && what - 20 < courtiers) {
            int bits = 0;
            for (int e : wornBy(now.court, what - 20)) {
                bits |= 1 << e;
            }
            return bits;
        }
        return -2;
    }

    // ---- the language

    static final class Parser {
        private static final List<String> HEADS = Arrays.asList("sees", "rubs", "touch", "put", "drawer", "swap", "polish");
        private static final List<String> BOTH = Arrays.asList("eye", "colour", "chipped", "hour", "since", "many");
        private static final List<String> SEES = Arrays.asList("thing", "kind", "who");
        private static final List<String> COMPARE = Arrays.asList("<", "<=", ">", ">=", "=", "#");

        private final String source;
        private int from = 0;
        private String token = null;
        private int place = 0;
        private boolean inSees = false;

        Parser(List<Integer> bytes) {
            StringBuilder b = new StringBuilder();
            for (int x : bytes) {
                b.append((char) x);
            }
            source = b.toString();
            next();
        }

        /** The next token; "" at the end; one sign that stands nowhere where it is none. */
        private void next() {
            while (from < source.length() && (source.charAt(from) == 32 || source.charAt(from) == 10)) {
                from++;
            }
            place = from;
            String rest = source.substring(from);
            java.util.regex.Matcher m = java.util.regex.Pattern.compile(
                    "^(?:[a-zA-Z]+|[0-9]+|<=|>=|[<>=#+*/();-])").matcher(rest);
            if (rest.isEmpty()) {
                token = "";
                place = source.length();
            } else if (m.find()) {
                token = m.group();
            } else {
                token = "?";
            }
            from += token.length();
        }

        private Fault fault(int what) {
            return new Fault(what, place);
        }

        private boolean isNumber() {
            return !token.isEmpty() && token.charAt(0) >= '0' && token.charAt(0) <= '9';
        }

        private void expect(String what) {
            if (!token.equals(what)) {
                throw fault(1);
            }
            next();
        }

        private int number(int most) {
            if (!isNumber()) {
                throw fault(1);
            }
            java.math.BigInteger value = new java.math.BigInteger(token);
            if (value.compareTo(java.math.BigInteger.valueOf(most)) > 0) {
                throw fault(2);
            }
            next();
            return value.intValue();
        }

        List<Clause> clauses() {
            List<Clause> clauses = new ArrayList<>();
            Set<String> laws = new HashSet<>();
            while (!token.isEmpty()) {
                Clause c = new Clause();
                c.head = token;
                if (!HEADS.contains(token)) {
                    throw fault(1);
                }
                if ((token.equals("sees") || token.equals("rubs")) && !laws.add(token)) {
                    throw fault(4);
                }
                if (clauses.size() == 24) {
                    throw fault(6);
                }
                next();
                inSees = c.head.equals("sees");
                switch (c.head) {
                    case "sees": c.law = either(); break;
                    case "rubs": c.law = sum(0); break;
                    case "touch": c.one = number(7); expect("by"); c.other = number(5); break;
                    case "put": c.one = number(7); expect("on"); c.other = number(5); break;
                    case "swap": c.one = number(7); expect("with"); c.other = number(7); break;
                    default: c.one = number(7); break;
                }
                expect(";");
                clauses.add(c);
            }
            return clauses;
        }

        private Tree either() {
            Tree left = both();
            while (token.equals("or")) {
                next();
                Tree l = left;
                Tree r = both();
                left = n -> l.value(n) != 0 || r.value(n) != 0 ? 1 : 0;
            }
            return left;
        }

        private Tree both() {
            Tree left = ask(0);
            while (token.equals("and")) {
                next();
                Tree l = left;
                Tree r = ask(0);
                left = n -> l.value(n) != 0 && r.value(n) != 0 ? 1 : 0;
            }
            return left;
        }

        private Tree ask(int open) {
            if (token.equals("not")) {
                if (open == 8) {
                    throw fault(3);
                }
                next();
                Tree inner = ask(open + 1);
                return n -> inner.value(n) == 0 ? 1 : 0;
            }
            Tree l = sum(open);
            String sign = token;
            if (!COMPARE.contains(sign)) {
                throw fault(1);
            }
            next();
            Tree r = sum(open);
            return n -> {
                int c = Long.compare(l.value(n), r.value(n));
                switch (sign) {
                    case "<": return c < 0 ? 1 : 0;
                    case "<=": return c <= 0 ? 1 : 0;
                    case ">": return c > 0 ? 1 : 0;
                    case ">=": return c >= 0 ? 1 : 0;
                    case "=": return c == 0 ? 1 : 0;
                    default: return c != 0 ? 1 : 0;
                }
            };
        }

        private static long cut(long value) {
            return Math.max(-1000000, Math.min(1000000, value));
        }

        private Tree sum(int open) {
            Tree left = product(open);
            while (token.equals("+") || token.equals("-")) {
                int sign = token.equals("+") ? 1 : -1;
                next();
                Tree l = left;
                Tree r = product(open);
                left = n -> cut(l.value(n) + sign * r.value(n));
            }
            return left;
        }

        private Tree product(int open) {
            Tree left = one(open);
            while (token.equals("*") || token.equals("/")) {
                boolean times = token.equals("*");
                next();
                Tree l = left;
                Tree r = one(open);
                left = times ? n -> cut(l.value(n) * r.value(n))
                        : n -> r.value(n) == 0 ? 0 : cut(l.value(n) / r.value(n));
            }
            return left;
        }

        private Tree one(int open) {
            if (isNumber()) {
                int value = number(9999);
                return n -> value;
            }
            if (BOTH.contains(token) || SEES.contains(token)) {
                if (SEES.contains(token) && !inSees) {
                    throw fault(5);
                }
                String name = token;
                next();
                return n -> n.get(name);
            }
            if (!token.equals("(") && !token.equals("-")) {
                throw fault(1);
            }
            if (open == 8) {
                throw fault(3);
            }
            boolean bracket = token.equals("(");
            next();
            if (bracket) {
                Tree inner = sum(open + 1);
                expect(")");
                return inner;
            }
            Tree inner = one(open + 1);
            return n -> -inner.value(n);
        }
    }
}
