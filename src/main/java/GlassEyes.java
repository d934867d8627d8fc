import java.util.Arrays;

/** Glass eyes of a blind court: what they saw, by which laws, and what can be told from them. */
public final class GlassEyes {
    public static final int NONE = -1;

    private static final int OTHERS = -2;
    private static final int NO_SUCH_TOUCH = -3;
    private static final int SURE = -2;

    private static final int MOST_COURTIERS = 6;
    private static final int MOST = 8;
    private static final int SORTS = 4;
    private static final int PLACES = 4;
    private static final int MOST_WORN = 2;
    private static final int LAST_HOUR = 999;
    private static final int MOST_STEPS = 30;
    private static final int MOST_TEXTS = 4;
    private static final int MOST_CLAUSES = 24;
    private static final int MOST_BYTES = 300;
    private static final int FED_BYTES = 20;
    private static final int MOST_TOUCHES = 3;
    private static final int MOST_RUBS = 99;
    private static final int MOST_SEED = 9999;
    private static final int MOST_DRAWS = 40;

    // The words of the language; a word's token is its number in this row.
    private static final String WORDS =
            "sees rubs touch put drawer swap polish by on with or and not eye colour chipped hour since many thing kind who ";
    private static final int SEES = 0;
    private static final int RUBS = 1;
    private static final int TOUCH = 2;
    private static final int PUT = 3;
    private static final int DRAWER = 4;
    private static final int SWAP = 5;
    private static final int POLISH = 6;
    private static final int BY = 7;
    private static final int ON = 8;
    private static final int WITH = 9;
    private static final int OR = 10;
    private static final int AND = 11;
    private static final int NOT = 12;
    private static final int FIRST_NAME = 13;
    private static final int LAST_RUBS_NAME = 18;
    private static final int LAST_SEES_NAME = 21;
    // The other tokens.
    private static final int LESS = 22;
    private static final int AT_MOST = 23;
    private static final int MORE = 24;
    private static final int AT_LEAST = 25;
    private static final int LIKE = 26;
    private static final int UNLIKE = 27;
    private static final int PLUS = 28;
    private static final int MINUS = 29;
    private static final int TIMES = 30;
    private static final int OVER = 31;
    private static final int OPEN = 32;
    private static final int CLOSE = 33;
    private static final int STOP = 34;
    private static final int NUMBER = 35;
    private static final int END = 36;
    private static final int UNKNOWN = 37;
    // No token: what a minus of one ONE becomes in a law's code.
    private static final int NEGATE = 38;

    private final int courtiers;
    private final byte[] tape = new byte[MOST_BYTES];
    private int tapeLength = 0;
    private final Reader reader = new Reader();
    private final Script[] scripts = new Script[MOST_TEXTS];
    private final Standing now = new Standing();
    private final Standing kept = new Standing();
    private final Court tale = new Court();
    private final Reckoner reckoner = new Reckoner();
    private final Rows rows = new Rows();
    private final int[] knownBehind = new int[MOST_TEXTS * MOST];
    private final int[] prices = new int[MOST];

    public GlassEyes(int courtiers) {
        this.courtiers = Math.max(1, Math.min(MOST_COURTIERS, courtiers));
        for (int i = 0; i < MOST_TEXTS; i++) {
            scripts[i] = new Script();
        }
    }

    public int thing(int kind) {
        if (kind < 0 || kind >= SORTS || now.things >= MOST) {
            return NONE;
        }
        now.kinds[now.things] = kind;
        now.things++;
        return now.things - 1;
    }

    public int eye(int colour, boolean chipped) {
        if (colour < 0 || colour >= SORTS || now.eyes >= MOST) {
            return NONE;
        }
        now.colours[now.eyes] = colour;
        now.chips[now.eyes] = chipped ? 1 : 0;
        now.eyes++;
        return now.eyes - 1;
    }

    public int feed(int a, int b, int c, int d, int e) {
        if (tapeLength + FED_BYTES > MOST_BYTES) {
            return NONE;
        }
        addFourBytes(a);
        addFourBytes(b);
        addFourBytes(c);
        addFourBytes(d);
        addFourBytes(e);
        return tapeLength;
    }

    public int end(int n) {
        if (n < 0 || n > tapeLength) {
            return NONE;
        }
        tapeLength = n;
        return n;
    }

    public int text() {
        if (now.texts >= MOST_TEXTS) {
            return NONE;
        }
        reader.begin(tape, tapeLength, scripts[now.texts]);
        for (int i = 0; i < MOST_BYTES && reader.hasMore(); i++) {
            reader.readClause();
        }
        tapeLength = 0;
        if (reader.flaw != 0) {
            return NONE;
        }
        now.texts++;
        return now.texts - 1;
    }

    public int fault(int what) {
        if (what == 0) {
            return reader.flaw;
        }
        return what == 1 ? reader.flawPlace : NONE;
    }

    public boolean by(int text) {
        if (text != NONE && !isText(text)) {
            return false;
        }
        now.ruling = text;
        return true;
    }

    public int touch(int thing, int who) {
        return byHand(TOUCH, thing, who);
    }

    public boolean put(int eye, int who) {
        return byHand(PUT, eye, who) != NONE;
    }

    public boolean swap(int one, int other) {
        return byHand(SWAP, one, other) != NONE;
    }

    public int polish(int eye) {
        return byHand(POLISH, eye, NONE);
    }

    public int played(int text) {
        if (!isText(text)) {
            return OTHERS;
        }
        Script story = scripts[text];
        for (int i = 0; i < story.clauses; i++) {
            if (story.isDeed(i) && byHand(story.deeds[i], story.ones[i], story.others[i]) == NONE) {
                return i;
            }
        }
        return NONE;
    }

    public int cat(int seed, int n) {
        if (seed < 0 || seed > MOST_SEED || n < 1 || n > MOST_DRAWS || now.eyes < 1) {
            return NONE;
        }
        now.past.keep(now.court);
        int x = seed * 6 + 1;
        int swapped = 0;
        for (int i = 0; i < n; i++) {
            int one = x % now.eyes;
            x = drawnAfter(x);
            int other = x % now.eyes;
            x = drawnAfter(x);
            if (one != other) {
                now.court.exchange(one, other);
                swapped++;
            }
        }
        return swapped;
    }

    public int undo() {
        return now.past.takeBack(now.court) ? now.past.count : NONE;
    }

    public int of(int eye, int what) {
        if (!isEye(eye)) {
            return OTHERS;
        }
        if (what >= 0 && what < PLACES) {
            return Court.atPlace(now.court.knows[eye], what);
        }
        switch (what) {
            case 4: return now.court.worn[eye];
            case 5: return now.court.since[eye];
            case 6: return now.colours[eye];
            case 7: return now.chips[eye];
            case 8: return rubsOf(eye);
            default: return OTHERS;
        }
    }

    public int told(int text, int eye, int place) {
        if (!isText(text) || !isEye(eye) || place < 0 || place >= PLACES) {
            return OTHERS;
        }
        tale.copyFrom(now.court);
        tell(scripts[text]);
        return Court.atPlace(tale.knows[eye], place);
    }

    public int verdict(int texts) {
        if (texts < 0 || texts >= 1 << now.texts) {
            return NONE;
        }
        if (Integer.bitCount(texts) < 2) {
            return 0;
        }
        tellAll(texts);
        int all = (1 << now.eyes) - 1;
        if (!tellsApart(all, texts)) {
            return NONE;
        }
        for (int eye = 0; eye < now.eyes; eye++) {
            prices[eye] = rubsOf(eye);
        }
        int best = all;
        for (int set = all - 1; set > 0; set--) {
            if (isNoWorse(set, best) && tellsApart(set, texts)) {
                best = set;
            }
        }
        return best;
    }

    public int quarrel(int who) {
        if (!isCourtier(who)) {
            return NONE;
        }
        int first = NONE;
        for (int eye = 0; eye < now.eyes; eye++) {
            if (now.court.worn[eye] == who) {
                if (first != NONE) {
                    return Court.unlikePlaces(now.court.knows[first], now.court.knows[eye]);
                }
                first = eye;
            }
        }
        return 0;
    }

    public int shown(int thing) {
        if (thing == NONE) {
            now.shownThings = 0;
            now.shownMany = 0;
            return 0;
        }
        if (!isThing(thing) || now.shownMany >= PLACES) {
            return OTHERS;
        }
        now.shownThings = Court.withPlace(now.shownThings, now.shownMany, thing);
        now.shownMany++;
        return now.shownMany;
    }

    public int how(int eye, int n, int what) {
        if (!isEye(eye) || n < 0 || n > MOST_TOUCHES || what < SURE || what >= n) {
            return NO_SUCH_TOUCH;
        }
        findRows(eye, n);
        if (what == NONE) {
            return rows.many;
        }
        if (what == SURE) {
            return rows.many > 0 ? rows.sure : 0;
        }
        return rows.many > 0 ? rows.first[what] : NO_SUCH_TOUCH;
    }

    public int supper(int text, int eye, int i) {
        if (!isText(text) || !isEye(eye) || i < NONE) {
            return NONE;
        }
        int found = 0;
        for (int lower = 0; lower < now.eyes; lower++) {
            for (int higher = lower + 1; higher < now.eyes; higher++) {
                tale.copyFrom(now.court);
                tale.exchange(lower, higher);
                tell(scripts[text]);
                if (tale.knows[eye] == now.shownThings) {
                    if (found == i) {
                        return 8 * lower + higher;
                    }
                    found++;
                }
            }
        }
        return i == NONE ? found : NONE;
    }

    public int image() {
        kept.copyFrom(now);
        return now.court.hour;
    }

    public int back() {
        now.copyFrom(kept);
        return now.court.hour;
    }

    public int about(int what) {
        if (what >= 20) {
            return isCourtier(what - 20) ? now.court.wornSet(what - 20) : OTHERS;
        }
        if (what >= 10) {
            return isThing(what - 10) ? now.kinds[what - 10] : OTHERS;
        }
        switch (what) {
            case 0: return courtiers;
            case 1: return now.things;
            case 2: return now.eyes;
            case 3: return now.court.hour;
            case 4: return now.texts;
            case 5: return now.ruling;
            case 6: return now.past.count;
            case 7: return now.shownMany;
            case 8: return tapeLength;
            default: return OTHERS;
        }
    }

    private boolean isThing(int thing) {
        return thing >= 0 && thing < now.things;
    }

    private boolean isEye(int eye) {
        return eye >= 0 && eye < now.eyes;
    }

    private boolean isText(int text) {
        return text >= 0 && text < now.texts;
    }

    private boolean isCourtier(int who) {
        return who >= 0 && who < courtiers;
    }

    private void addFourBytes(int four) {
        for (int shift = 24; shift >= 0 && tapeLength < MOST_BYTES; shift -= 8) {
            tape[tapeLength] = (byte) (four >> shift);
            tapeLength++;
        }
    }

    private static int drawnAfter(int x) {
        return (x * 211 + 83) % 30071;
    }

    /** Does a deed as a STEP: what it answers, or NONE if it can't be. */
    private int byHand(int deed, int one, int other) {
        if (!canBe(now.court, deed, one, other)) {
            return NONE;
        }
        now.past.keep(now.court);
        return perform(now.court, deed, one, other);
    }

    /** Tells a STORY from how the tale stands; what can't be is left out. */
    private void tell(Script story) {
        for (int i = 0; i < story.clauses; i++) {
            if (story.isDeed(i) && canBe(tale, story.deeds[i], story.ones[i], story.others[i])) {
                perform(tale, story.deeds[i], story.ones[i], story.others[i]);
            }
        }
    }

    private boolean canBe(Court court, int deed, int one, int other) {
        switch (deed) {
            case TOUCH:
                return isThing(one) && isCourtier(other) && court.hour < LAST_HOUR;
            case PUT:
                return isEye(one) && court.worn[one] != other && hasRoom(court, other);
            case SWAP:
                return isEye(one) && isEye(other) && one != other;
            default:
                return isEye(one);
        }
    }

    private boolean hasRoom(Court court, int who) {
        return who == NONE || isCourtier(who) && Integer.bitCount(court.wornSet(who)) < MOST_WORN;
    }

    /** Does what canBe has found to be possible. */
    private int perform(Court court, int deed, int one, int other) {
        switch (deed) {
            case TOUCH:
                return feel(court, one, other);
            case PUT:
                court.move(one, other);
                return 0;
            case SWAP:
                court.exchange(one, other);
                return 0;
            default:
                return court.forget(one);
        }
    }

    /** A TOUCH: how many EYES see it. The laws are asked at the new HOUR. */
    private int feel(Court court, int thing, int who) {
        court.hour++;
        int seen = 0;
        for (int eye = 0; eye < now.eyes; eye++) {
            if (court.worn[eye] == who && isSeen(court, eye, thing, who)) {
                court.knows[eye] = learned(court.knows[eye], eye, thing);
                seen++;
            }
        }
        return seen;
    }

    private int learned(int knows, int eye, int thing) {
        int once = Court.withAhead(knows, thing);
        return now.chips[eye] == 1 ? Court.withAhead(once, thing) : once;
    }

    private boolean isSeen(Court court, int eye, int thing, int who) {
        if (!isText(now.ruling)) {
            return true;
        }
        Script law = scripts[now.ruling];
        if (law.seesFrom == NONE) {
            return true;
        }
        nameEye(court, eye);
        reckoner.nameTouch(thing, now.kinds[thing], who);
        return reckoner.reckon(law.code, law.seesFrom, law.seesTo) != 0;
    }

    private int rubsOf(int eye) {
        if (!isText(now.ruling)) {
            return 1;
        }
        Script law = scripts[now.ruling];
        if (law.rubsFrom == NONE) {
            return 1;
        }
        nameEye(now.court, eye);
        int rubs = reckoner.reckon(law.code, law.rubsFrom, law.rubsTo);
        return Math.max(0, Math.min(MOST_RUBS, rubs));
    }

    private void nameEye(Court court, int eye) {
        reckoner.nameEye(eye, now.colours[eye], now.chips[eye]);
        reckoner.nameTimes(court.hour, court.hour - court.since[eye], Court.howMuch(court.knows[eye]));
    }

    /** Keeps what each EYE would KNOW behind each STORY of the set. */
    private void tellAll(int texts) {
        for (int text = 0; text < now.texts; text++) {
            if ((texts >> text & 1) == 1) {
                tale.copyFrom(now.court);
                tell(scripts[text]);
                System.arraycopy(tale.knows, 0, knownBehind, text * MOST, MOST);
            }
        }
    }

    private boolean tellsApart(int eyes, int texts) {
        for (int one = 0; one < now.texts; one++) {
            for (int other = one + 1; other < now.texts; other++) {
                boolean both = (texts >> one & texts >> other & 1) == 1;
                if (both && !differ(eyes, one * MOST, other * MOST)) {
                    return false;
                }
            }
        }
        return true;
    }

    private boolean differ(int eyes, int oneRow, int otherRow) {
        for (int eye = 0; eye < now.eyes; eye++) {
            if ((eyes >> eye & 1) == 1 && knownBehind[oneRow + eye] != knownBehind[otherRow + eye]) {
                return true;
            }
        }
        return false;
    }

    /** Whether a lower set is to be taken rather than a higher one. */
    private boolean isNoWorse(int lower, int higher) {
        int less = priceOf(higher) - priceOf(lower);
        return less > 0 || less == 0 && Integer.bitCount(lower) <= Integer.bitCount(higher);
    }

    private int priceOf(int eyes) {
        int price = 0;
        for (int eye = 0; eye < now.eyes; eye++) {
            price += prices[eye] * (eyes >> eye & 1);
        }
        return price;
    }

    private void findRows(int eye, int n) {
        tale.copyFrom(now.court);
        rows.begin(eye, n, tale.worn[eye], courtiers);
        if (tale.hour + n <= LAST_HOUR) {
            goThroughRows(0, tale.knows[eye], 1, 0);
        }
    }

    /**
     * Goes through the rows from the touch at a slot on, the lowest first. Touches by courtiers who don't
     * wear the eye change nothing that it sees, so all of them are gone through as one, which stands for
     * (alike) many; hands tells whether the wearer's (1) and others' (2) were in it.
     */
    private void goThroughRows(int slot, int knows, int alike, int hands) {
        if (slot >= rows.length) {
            if (knows == now.shownThings) {
                rows.found(alike, hands);
            }
            return;
        }
        if (rows.wearer != 0) {
            touchByOthers(slot, knows, alike, hands);
        }
        if (rows.wearer != NONE) {
            touchByWearer(slot, knows, alike, hands);
        }
        if (rows.wearer == 0) {
            touchByOthers(slot, knows, alike, hands);
        }
    }

    private void touchByOthers(int slot, int knows, int alike, int hands) {
        int touches = rows.others * now.things;
        if (touches > 0 && slot < MOST_TOUCHES) {
            rows.row[slot] = 8 * rows.lowestOther;
            goThroughRows(slot + 1, knows, alike * touches, hands | 2);
        }
    }

    private void touchByWearer(int slot, int knows, int alike, int hands) {
        int hour = now.court.hour + slot + 1;
        for (int thing = 0; thing < now.things && slot < MOST_TOUCHES; thing++) {
            tale.hour = hour;
            tale.knows[rows.eye] = knows;
            boolean seen = isSeen(tale, rows.eye, thing, rows.wearer);
            rows.row[slot] = 8 * rows.wearer + thing;
            goThroughRows(slot + 1, seen ? learned(knows, rows.eye, thing) : knows, alike, hands | 1);
        }
    }

    /**
     * What STEPS change and undo brings back. What an EYE KNOWS is one number: four bits a place, the latest
     * lowest, the THING and 1, or 0 for none, so that like knowledge is like numbers.
     */
    private static final class Court {
        int hour = 0;
        final int[] worn = new int[MOST];
        final int[] since = new int[MOST];
        final int[] knows = new int[MOST];

        Court() {
            Arrays.fill(worn, NONE);
        }

        void copyFrom(Court other) {
            hour = other.hour;
            System.arraycopy(other.worn, 0, worn, 0, MOST);
            System.arraycopy(other.since, 0, since, 0, MOST);
            System.arraycopy(other.knows, 0, knows, 0, MOST);
        }

        void move(int eye, int who) {
            worn[eye] = who;
            since[eye] = hour;
        }

        void exchange(int one, int other) {
            int where = worn[one];
            move(one, worn[other]);
            move(other, where);
        }

        int forget(int eye) {
            int knew = howMuch(knows[eye]);
            knows[eye] = 0;
            return knew;
        }

        int wornSet(int who) {
            int set = 0;
            for (int eye = 0; eye < MOST; eye++) {
                if (worn[eye] == who) {
                    set |= 1 << eye;
                }
            }
            return set;
        }

        static int atPlace(int knows, int place) {
            return (knows >> 4 * place & 15) - 1;
        }

        static int withAhead(int knows, int thing) {
            return (knows << 4 | thing + 1) & 0xFFFF;
        }

        static int withPlace(int knows, int place, int thing) {
            return knows | thing + 1 << 4 * place;
        }

        static int howMuch(int knows) {
            int places = 0;
            for (int place = 0; place < PLACES; place++) {
                if ((knows >> 4 * place & 15) != 0) {
                    places++;
                }
            }
            return places;
        }

        static int unlikePlaces(int one, int other) {
            return howMuch(one ^ other);
        }
    }

    /** How the court stood ahead of each of the latest STEPS, in a ring. */
    private static final class Past {
        private final Court[] ring = new Court[MOST_STEPS];
        private int next = 0;
        int count = 0;

        Past() {
            for (int i = 0; i < MOST_STEPS; i++) {
                ring[i] = new Court();
            }
        }

        void keep(Court court) {
            ring[next].copyFrom(court);
            next = (next + 1) % MOST_STEPS;
            count = Math.min(count + 1, MOST_STEPS);
        }

        boolean takeBack(Court court) {
            if (count == 0) {
                return false;
            }
            count--;
            next = (next + MOST_STEPS - 1) % MOST_STEPS;
            court.copyFrom(ring[next]);
            return true;
        }

        void copyFrom(Past other) {
            for (int i = 0; i < MOST_STEPS; i++) {
                ring[i].copyFrom(other.ring[i]);
            }
            next = other.next;
            count = other.count;
        }
    }

    /**
     * All that an IMAGE holds. Of the TEXTS it holds their number alone: those of the one IMAGE are the
     * lowest ones, and a TEXT is only ever read into the place behind those that there are.
     */
    private static final class Standing {
        int things = 0;
        final int[] kinds = new int[MOST];
        int eyes = 0;
        final int[] colours = new int[MOST];
        final int[] chips = new int[MOST];
        int texts = 0;
        int ruling = NONE;
        int shownMany = 0;
        int shownThings = 0;
        final Court court = new Court();
        final Past past = new Past();

        void copyFrom(Standing other) {
            things = other.things;
            System.arraycopy(other.kinds, 0, kinds, 0, MOST);
            eyes = other.eyes;
            System.arraycopy(other.colours, 0, colours, 0, MOST);
            System.arraycopy(other.chips, 0, chips, 0, MOST);
            texts = other.texts;
            ruling = other.ruling;
            shownMany = other.shownMany;
            shownThings = other.shownThings;
            court.copyFrom(other.court);
            past.copyFrom(other.past);
        }
    }

    /** What was found of HOW: how many rows, the hands in all of them, the first row. */
    private static final class Rows {
        int eye = 0;
        int length = 0;
        int wearer = NONE;
        int others = 0;
        int lowestOther = 0;
        int many = 0;
        int sure = 0;
        final int[] row = new int[MOST_TOUCHES];
        final int[] first = new int[MOST_TOUCHES];

        void begin(int ofEye, int n, int wornBy, int courtiers) {
            eye = ofEye;
            length = n;
            wearer = wornBy;
            others = wornBy == NONE ? courtiers : courtiers - 1;
            lowestOther = wornBy == 0 ? 1 : 0;
            many = 0;
            sure = (1 << MOST_COURTIERS) - 1;
        }

        void found(int alike, int hands) {
            if (many == 0) {
                System.arraycopy(row, 0, first, 0, MOST_TOUCHES);
            }
            many += alike;
            int surely = (hands & 1) == 1 ? 1 << wearer : 0;
            // Where two or more others may have touched, none of them surely did.
            if ((hands & 2) == 2 && others == 1) {
                surely |= 1 << lowestOther;
            }
            sure &= surely;
        }
    }

    /** A TEXT that was read: its deeds, and its laws as code in which a sign stands behind what it joins. */
    private static final class Script {
        int clauses = 0;
        final int[] deeds = new int[MOST_CLAUSES];
        final int[] ones = new int[MOST_CLAUSES];
        final int[] others = new int[MOST_CLAUSES];
        // A number stands for itself, a name or sign for -1 less its token.
        final int[] code = new int[MOST_BYTES];
        int codeLength = 0;
        int seesFrom = NONE;
        int seesTo = NONE;
        int rubsFrom = NONE;
        int rubsTo = NONE;

        void clear() {
            clauses = 0;
            codeLength = 0;
            seesFrom = NONE;
            rubsFrom = NONE;
        }

        boolean isDeed(int clause) {
            return deeds[clause] != SEES && deeds[clause] != RUBS;
        }

        void addClause(int deed, int one, int other) {
            if (clauses < MOST_CLAUSES) {
                deeds[clauses] = deed;
                ones[clauses] = one;
                others[clauses] = other;
                clauses++;
            }
        }

        void addNumber(int number) {
            if (codeLength < MOST_BYTES) {
                code[codeLength] = number;
                codeLength++;
            }
        }

        void addSign(int token) {
            addNumber(-1 - token);
        }
    }

    /** Reckons the code of a law for what the names stand for. */
    private static final class Reckoner {
        private static final int LIMIT = 1000000;

        // In the order in which the names stand among the words.
        private final int[] names = new int[LAST_SEES_NAME - FIRST_NAME + 1];
        // 8 brackets within one another leave at most 22 values waiting.
        private final int[] stack = new int[32];

        void nameEye(int eye, int colour, int chip) {
            names[0] = eye;
            names[1] = colour;
            names[2] = chip;
        }

        void nameTimes(int hour, int since, int many) {
            names[3] = hour;
            names[4] = since;
            names[5] = many;
        }

        void nameTouch(int thing, int kind, int who) {
            names[6] = thing;
            names[7] = kind;
            names[8] = who;
        }

        int reckon(int[] code, int from, int to) {
            int top = 0;
            for (int i = Math.max(0, from); i < to && i < code.length; i++) {
                int token = -1 - code[i];
                boolean isName = token >= FIRST_NAME && token <= LAST_SEES_NAME;
                if (token < 0 || isName) {
                    if (top < stack.length) {
                        stack[top] = isName ? names[token - FIRST_NAME] : code[i];
                        top++;
                    }
                } else if (token == NEGATE || token == NOT) {
                    if (top >= 1) {
                        stack[top - 1] = token == NEGATE ? -stack[top - 1] : 1 - stack[top - 1];
                    }
                } else if (top >= 2) {
                    top--;
                    stack[top - 1] = within(joined(token, stack[top - 1], stack[top]));
                }
            }
            return top >= 1 ? stack[top - 1] : 0;
        }

        private static int within(long value) {
            if (value > LIMIT) {
                return LIMIT;
            }
            return value < -LIMIT ? -LIMIT : (int) value;
        }

        private static long joined(int token, int left, int right) {
            switch (token) {
                case PLUS: return left + right;
                case MINUS: return left - right;
                case TIMES: return (long) left * right;
                case OVER: return right == 0 ? 0 : left / right;
                case AND: return left & right;
                case OR: return left | right;
                case LESS: return left < right ? 1 : 0;
                case AT_MOST: return left <= right ? 1 : 0;
                case MORE: return left > right ? 1 : 0;
                case AT_LEAST: return left >= right ? 1 : 0;
                case LIKE: return left == right ? 1 : 0;
                default: return left != right ? 1 : 0;
            }
        }
    }

    /** Reads a tape into a Script, and keeps the FAULT that it came upon. */
    private static final class Reader {
        private static final int CANT_STAND = 1;
        private static final int NO_SUCH_NUMBER = 2;
        private static final int TOO_DEEP = 3;
        private static final int SECOND_LAW = 4;
        private static final int NAME_ELSEWHERE = 5;
        private static final int TOO_MANY_CLAUSES = 6;

        private static final int MOST_OPEN = 8;
        private static final int MOST_NUMBER = 9999;

        int flaw = NONE;
        int flawPlace = NONE;
        private final int[] tokens = new int[MOST_BYTES + 1];
        private final int[] places = new int[MOST_BYTES + 1];
        private final int[] numbers = new int[MOST_BYTES + 1];
        private int endToken = 0;
        private int at = 0;
        private int lastName = LAST_SEES_NAME;
        private Script script = new Script();

        void begin(byte[] tape, int length, Script into) {
            flaw = 0;
            flawPlace = NONE;
            script = into;
            script.clear();
            scan(tape, Math.min(length, tape.length));
            at = 0;
        }

        boolean hasMore() {
            return at < endToken;
        }

        private void scan(byte[] tape, int length) {
            int count = 0;
            int place = 0;
            while (place < length && count < MOST_BYTES) {
                if (tape[place] == ' ' || tape[place] == '\n') {
                    place++;
                } else {
                    int next = runEnd(tape, place, length);
                    places[count] = place;
                    numbers[count] = isDigit(tape[place]) ? numberOf(tape, place, next) : 0;
                    tokens[count] = tokenOf(tape, place, next);
                    place = next;
                    count++;
                }
            }
            tokens[count] = END;
            places[count] = length;
            endToken = count;
        }

        /** Where the token that begins at a place ends; always behind that place. */
        private static int runEnd(byte[] tape, int place, int length) {
            int next = place + 1;
            if (isLetter(tape[place])) {
                while (next < length && isLetter(tape[next])) {
                    next++;
                }
            } else if (isDigit(tape[place])) {
                while (next < length && isDigit(tape[next])) {
                    next++;
                }
            } else if ((tape[place] == '<' || tape[place] == '>') && next < length && tape[next] == '=') {
                next++;
            }
            return next;
        }

        private static boolean isLetter(int sign) {
            return sign >= 'a' && sign <= 'z' || sign >= 'A' && sign <= 'Z';
        }

        private static boolean isDigit(int sign) {
            return sign >= '0' && sign <= '9';
        }

        private static int numberOf(byte[] tape, int from, int to) {
            int number = 0;
            for (int i = from; i < to; i++) {
                // Kept just above the limit, lest a long run of digits wraps around into it.
                number = Math.min(number * 10 + tape[i] - '0', MOST_NUMBER + 1);
            }
            return number;
        }

        private static int tokenOf(byte[] tape, int from, int to) {
            if (isLetter(tape[from])) {
                return wordToken(tape, from, to);
            }
            if (isDigit(tape[from])) {
                return NUMBER;
            }
            boolean withEqual = to - from == 2;
            switch (tape[from]) {
                case '<': return withEqual ? AT_MOST : LESS;
                case '>': return withEqual ? AT_LEAST : MORE;
                case '=': return LIKE;
                case '#': return UNLIKE;
                case '+': return PLUS;
                case '-': return MINUS;
                case '*': return TIMES;
                case '/': return OVER;
                case '(': return OPEN;
                case ')': return CLOSE;
                case ';': return STOP;
                default: return UNKNOWN;
            }
        }

        private static int wordToken(byte[] tape, int from, int to) {
            int token = 0;
            int begin = 0;
            for (int i = 0; i < WORDS.length(); i++) {
                if (WORDS.charAt(i) == ' ') {
                    if (i - begin == to - from && isWord(tape, from, to, begin)) {
                        return token;
                    }
                    token++;
                    begin = i + 1;
                }
            }
            return UNKNOWN;
        }

        private static boolean isWord(byte[] tape, int from, int to, int begin) {
            for (int i = from; i < to; i++) {
                if (tape[i] != WORDS.charAt(begin + i - from)) {
                    return false;
                }
            }
            return true;
        }

        /** Only the first FAULT counts; behind it the reading stands at the end, where nothing is taken. */
        private void fail(int what) {
            if (flaw == 0) {
                flaw = what;
                flawPlace = places[at];
            }
            at = endToken;
        }

        /** Takes a token other than the end, behind which there is none. */
        private void take(int token) {
            if (tokens[at] == token) {
                at++;
            } else {
                fail(CANT_STAND);
            }
        }

        private int takeNumber(int most) {
            int number = numbers[at];
            if (tokens[at] != NUMBER) {
                fail(CANT_STAND);
                return 0;
            }
            if (number > most) {
                fail(NO_SUCH_NUMBER);
                return 0;
            }
            at++;
            return number;
        }

        /** The FAULT that the first token of a CLAUSE is, or 0. */
        private int flawOfHead(int head) {
            if (head > POLISH) {
                return CANT_STAND;
            }
            if (head == SEES && script.seesFrom != NONE || head == RUBS && script.rubsFrom != NONE) {
                return SECOND_LAW;
            }
            return script.clauses >= MOST_CLAUSES ? TOO_MANY_CLAUSES : 0;
        }

        void readClause() {
            int head = tokens[at];
            int flawOfIt = flawOfHead(head);
            if (flawOfIt != 0) {
                fail(flawOfIt);
                return;
            }
            at++;
            switch (head) {
                case SEES:
                    readSees();
                    break;
                case RUBS:
                    readRubs();
                    break;
                case TOUCH:
                    readDeed(TOUCH, BY, MOST_COURTIERS - 1);
                    break;
                case PUT:
                    readDeed(PUT, ON, MOST_COURTIERS - 1);
                    break;
                case SWAP:
                    readDeed(SWAP, WITH, MOST - 1);
                    break;
                default:
                    script.addClause(head == DRAWER ? PUT : POLISH, takeNumber(MOST - 1), NONE);
                    break;
            }
            take(STOP);
        }

        private void readDeed(int deed, int link, int most) {
            int one = takeNumber(MOST - 1);
            take(link);
            int other = takeNumber(most);
            script.addClause(deed, one, other);
        }

        private void readRubs() {
            lastName = LAST_RUBS_NAME;
            script.rubsFrom = script.codeLength;
            readSum(0);
            script.rubsTo = script.codeLength;
            script.addClause(RUBS, NONE, NONE);
        }

        /** An or waits for the ands to its right. */
        private void readSees() {
            lastName = LAST_SEES_NAME;
            script.seesFrom = script.codeLength;
            boolean orWaits = false;
            readAsk(0);
            for (int i = 0; i < MOST_BYTES && (tokens[at] == AND || tokens[at] == OR); i++) {
                boolean isAnd = tokens[at] == AND;
                if (!isAnd && orWaits) {
                    script.addSign(OR);
                }
                orWaits = orWaits || !isAnd;
                at++;
                readAsk(0);
                if (isAnd) {
                    script.addSign(AND);
                }
            }
            if (orWaits) {
                script.addSign(OR);
            }
            script.seesTo = script.codeLength;
            script.addClause(SEES, NONE, NONE);
        }

        private void readAsk(int open) {
            if (tokens[at] == NOT) {
                if (open >= MOST_OPEN) {
                    fail(TOO_DEEP);
                    return;
                }
                at++;
                readAsk(open + 1);
                script.addSign(NOT);
                return;
            }
            readSum(open);
            int sign = tokens[at];
            if (sign < LESS || sign > UNLIKE) {
                fail(CANT_STAND);
                return;
            }
            at++;
            readSum(open);
            script.addSign(sign);
        }

        /** A + or - waits for the * and / to its right. */
        private void readSum(int open) {
            int waits = NONE;
            readOne(open);
            for (int i = 0; i < MOST_BYTES && tokens[at] >= PLUS && tokens[at] <= OVER; i++) {
                int sign = tokens[at];
                boolean joinsAtOnce = sign == TIMES || sign == OVER;
                if (!joinsAtOnce) {
                    if (waits != NONE) {
                        script.addSign(waits);
                    }
                    waits = sign;
                }
                at++;
                readOne(open);
                if (joinsAtOnce) {
                    script.addSign(sign);
                }
            }
            if (waits != NONE) {
                script.addSign(waits);
            }
        }

        private void readOne(int open) {
            int token = tokens[at];
            if (token == NUMBER) {
                script.addNumber(takeNumber(MOST_NUMBER));
            } else if (token >= FIRST_NAME && token <= LAST_SEES_NAME) {
                if (token > lastName) {
                    fail(NAME_ELSEWHERE);
                    return;
                }
                script.addSign(token);
                at++;
            } else if (token != OPEN && token != MINUS) {
                fail(CANT_STAND);
            } else if (open >= MOST_OPEN) {
                fail(TOO_DEEP);
            } else if (token == OPEN) {
                at++;
                readSum(open + 1);
                take(CLOSE);
            } else {
                at++;
                readOne(open + 1);
                script.addSign(NEGATE);
            }
        }
    }
}
