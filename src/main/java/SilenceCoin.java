/**
 * Silence in coin: who may not be spoken to when, what is said all the same,
 * whom a rumour comes to, and what quiet costs. The face is told by DOC.md;
 * README.md says how the parts hang together.
 */
public final class SilenceCoin {
    public static final int BAD = -1, STATE = -2, FULL = -3, NONE = -4;

    private static final int HOURS = 12, MOST_PEOPLE = 6, MOST_COINS = 6, MOST_TALKS = 10;
    private static final int MOST_LAW = 2, MOST_FEE = 9, MOST_WISH = 9, MOST_PURSE = 50, MOST_WORTH = 3;
    private static final int MOST_PRICE = 99, MOST_FALSE = 3, MOST_CHATTER = 60;
    private static final int IMAGES = 2, SHEETS = 4, MOST_READ = 13;
    private static final int GOSSIP = 1, DEAF = 2, BEGGAR = 3, TAXMAN = 4;
    private static final int NULL_FAULT = 1, INDEX_FAULT = 2, CAST_FAULT = 3, SIZE_FAULT = 4;
    private static final int FAULT_BASE = -10, REFUSED_BASE = -20, PART_BASE = 10;

    private final Tape tape;
    private final TextReader reader;
    private final Town town;
    private final Rumours rumours;
    private final Funeral burial;
    private final Hisses hisses;
    private final Town[] images;
    private final boolean[] isKept;
    private final Sheet[] sheets;
    private int tornFault;

    public SilenceCoin() {
        tape = new Tape();
        reader = new TextReader(tape);
        town = new Town();
        rumours = new Rumours(town);
        burial = new Funeral(town);
        hisses = new Hisses();
        images = new Town[IMAGES];
        for (int k = 0; k < IMAGES; k++) {
            images[k] = new Town();
        }
        isKept = new boolean[IMAGES];
        sheets = new Sheet[SHEETS];
        for (int k = 0; k < SHEETS; k++) {
            sheets[k] = new Sheet();
        }
    }

    // ---- the text, what there is

    public int feed(long v) {
        return tape.append(v);
    }

    public int end(int n) {
        return tape.cutTo(n);
    }

    public int text() {
        boolean isTaken = reader.readTape();
        tape.length = 0;
        if (!isTaken) {
            return FAULT_BASE - reader.faultPlace;
        }
        town.copyFrom(reader.draft);
        rumours.known = 0;
        hisses.tested = 0;
        for (int k = 0; k < IMAGES; k++) {
            isKept[k] = false;
        }
        return reader.lines;
    }

    public int fault() {
        return reader.faultKind;
    }

    public int rule(int what) {
        switch (what) {
            case 0: return town.people;
            case 1: return town.coins;
            case 2: return town.talks;
            case 3: return town.lawNow;
            case 4: return town.feeNow;
            default: return BAD;
        }
    }

    public int one(int p, int what) {
        if (!town.hasOne(p)) {
            return BAD;
        }
        switch (what) {
            case 0: return town.kind[p];
            case 1: return town.wish[p];
            case 2: return town.purse[p];
            default: return BAD;
        }
    }

    public int coin(int c, int what) {
        if (!town.hasCoin(c)) {
            return BAD;
        }
        switch (what) {
            case 0: return town.worth[c];
            case 1: return town.owner[c];
            case 2: return oneIf(town.isClipped[c]);
            case 3: return town.spentIn[c];
            case 4: return town.lengthBy(c, town.owner[c]);
            default: return BAD;
        }
    }

    public int talk(int k, int what) {
        if (k < 0 || k >= town.talks) {
            return BAD;
        }
        switch (what) {
            case 0: return town.talkHour[k];
            case 1: return town.speaker[k];
            case 2: return town.hearer[k];
            case 3: return oneIf(town.isTalkSaid(k));
            default: return BAD;
        }
    }

    // ---- what is changed

    public int law(int v) {
        if (v < 0 || v > MOST_LAW) {
            return BAD;
        }
        int before = town.lawNow;
        town.lawNow = v;
        return before;
    }

    public int fee(int v) {
        if (v < 0 || v > MOST_FEE) {
            return BAD;
        }
        int before = town.feeNow;
        town.feeNow = v;
        return before;
    }

    public int give(int c, int p) {
        if (!town.hasCoin(c) || !town.hasOne(p)) {
            return BAD;
        }
        if (town.isSpent(c)) {
            return STATE;
        }
        int before = town.owner[c];
        town.owner[c] = p;
        return before;
    }

    public int clip(int c) {
        if (!town.hasCoin(c)) {
            return BAD;
        }
        int answer = oneIf(!town.isClipped[c]);
        town.isClipped[c] = true;
        return answer;
    }

    public int spend(int c, int h) {
        if (!town.hasCoin(c) || !isHour(h)) {
            return BAD;
        }
        if (town.isSpent(c)) {
            return STATE;
        }
        town.spentIn[c] = h;
        return town.lengthBy(c, town.owner[c]);
    }

    public int undo(int c) {
        if (!town.hasCoin(c)) {
            return BAD;
        }
        int before = town.spentIn[c];
        town.spentIn[c] = NONE;
        return before;
    }

    public int speak(int h, int p, int q) {
        return town.addTalk(h, p, q);
    }

    // ---- silence, talks

    public int silent(int h) {
        return isHour(h) ? town.silentOnes(h) : BAD;
    }

    public int quiet(int p) {
        if (!town.hasOne(p)) {
            return BAD;
        }
        int hours = 0;
        for (int h = 0; h < HOURS; h++) {
            if (hasBit(town.silentOnes(h), p)) {
                hours |= 1 << h;
            }
        }
        return hours;
    }

    public int may(int h, int p, int q) {
        if (!town.canTalk(h, p, q)) {
            return BAD;
        }
        return oneIf(town.isSaid(town.silentOnes(h), p, q));
    }

    public int said() {
        int bits = 0;
        for (int k = 0; k < town.talks; k++) {
            if (town.isTalkSaid(k)) {
                bits |= 1 << k;
            }
        }
        return bits;
    }

    // ---- rumours

    public int knows(int p, int h) {
        if (!town.hasOne(p) || !isHour(h)) {
            return BAD;
        }
        rumours.takeSilence();
        return rumours.knowersBehind(p, h);
    }

    public int learns(int p, int q) {
        if (!town.hasOne(p) || !town.hasOne(q)) {
            return BAD;
        }
        rumours.takeSilence();
        return rumours.hourItComes(p, q);
    }

    public int hush(int p, int q, int what) {
        if (!town.hasOne(p) || !town.hasOne(q) || p == q || what < 0 || what > 1) {
            return BAD;
        }
        rumours.takeSilence();
        if (rumours.hourItComes(p, q) == NONE) {
            return STATE;
        }
        for (int c = 0; c < town.coins; c++) {
            int h = town.isSpent(c) ? NONE : rumours.hushingHour(c, p, q);
            if (h != NONE) {
                return what == 0 ? c : h;
            }
        }
        return NONE;
    }

    public int hear(int p, boolean is) {
        return town.hasOne(p) ? rumours.note(p, is) : BAD;
    }

    public int forget(int n) {
        int before = rumours.known;
        if (n < 0 || n > before) {
            return BAD;
        }
        rumours.known = n;
        return before;
    }

    public int first() {
        rumours.takeSilence();
        int bits = 0;
        for (int p = 0; p < town.people; p++) {
            if (rumours.canBeginWith(p)) {
                bits |= 1 << p;
            }
        }
        return bits;
    }

    // ---- funerals, raids, prices

    public int funeral(int some, int n, int what) {
        if (!isSubset(some, town.people) || n < 1 || n > HOURS) {
            return BAD;
        }
        int c = what - PART_BASE;
        boolean isOfCoin = what >= PART_BASE && town.hasCoin(c);
        if (what != 0 && !isOfCoin) {
            return BAD;
        }
        if (!burial.plan(some, n)) {
            return NONE;
        }
        return isOfCoin ? burial.bestTo[c] : burial.bestCost;
    }

    public int raid(int what) {
        if (what >= PART_BASE && isHour(what - PART_BASE)) {
            return town.raidedIn(what - PART_BASE);
        }
        if (what != 0 && what != 1) {
            return BAD;
        }
        int best = NONE;
        int bestHour = 0;
        for (int h = 0; h < HOURS; h++) {
            int taken = town.raidedIn(h);
            if (taken > best) {
                best = taken;
                bestHour = h;
            }
        }
        return what == 0 ? best : bestHour;
    }

    public int settle(int v, int what) {
        if (v < 1 || v > MOST_PRICE || what < 0 || what > 1) {
            return BAD;
        }
        int price = v;
        // After more rounds than there are prices one has come again, so it goes round.
        for (int round = 1; round <= MOST_PRICE; round++) {
            int then = town.priceAfter(price);
            if (then == price) {
                return what == 0 ? price : round;
            }
            price = then;
        }
        return NONE;
    }

    // ---- false ones

    public int test(int some, boolean hissed) {
        if (some == 0 || !isSubset(some, town.coins)) {
            return BAD;
        }
        return hisses.note(some, hissed);
    }

    public int untest(int n) {
        int before = hisses.tested;
        if (n < 0 || n > before) {
            return BAD;
        }
        hisses.tested = n;
        return before;
    }

    public int fakes(int k, int what) {
        if (k < 0 || k > MOST_FALSE || what < 0 || what > 3) {
            return BAD;
        }
        hisses.findSets(k, town.coins);
        if (what == 0) {
            return hisses.sets;
        }
        if (hisses.sets == 0) {
            return NONE;
        }
        switch (what) {
            case 1: return hisses.fitting[0];
            case 2: return hisses.inAll();
            default: return allOf(town.coins) & ~hisses.inAny();
        }
    }

    public int next(int k, int what) {
        if (k < 0 || k > MOST_FALSE || what < 0 || what > 1) {
            return BAD;
        }
        hisses.findSets(k, town.coins);
        int fewest = hisses.sets;
        int best = NONE;
        for (int some = 1; some <= allOf(town.coins); some++) {
            int left = hisses.leftAtWorst(some);
            if (left < fewest) {
                fewest = left;
                best = some;
            }
        }
        return what == 0 || best == NONE ? best : fewest;
    }

    // ---- by a seed

    public int chatter(int seed, int n) {
        if (n < 1 || n > MOST_CHATTER) {
            return BAD;
        }
        if (town.people == 0) {
            return STATE;
        }
        int now = seed;
        int count = 0;
        for (int i = 0; i < n; i++) {
            now = stepSeed(now);
            int h = drawn(now) % HOURS;
            now = stepSeed(now);
            int p = drawn(now) % town.people;
            now = stepSeed(now);
            int q = drawn(now) % town.people;
            if (p != q && town.isSaid(town.silentOnes(h), p, q)) {
                count++;
            }
        }
        return count;
    }

    // ---- images, sheets

    public int keep(int k) {
        if (k < 0 || k >= IMAGES) {
            return BAD;
        }
        int before = oneIf(isKept[k]);
        // People only change with a text, which drops all images, so a whole copy is right.
        images[k].copyFrom(town);
        isKept[k] = true;
        return before;
    }

    public int back(int k) {
        if (k < 0 || k >= IMAGES) {
            return BAD;
        }
        if (!isKept[k]) {
            return STATE;
        }
        town.copyFrom(images[k]);
        return town.talks;
    }

    public int sheet(int k, int lane, int n) {
        if (!isSheet(k) || !isLane(lane) || n > Sheet.MOST_CELLS) {
            return BAD;
        }
        if (n < 0) {
            return FAULT_BASE - SIZE_FAULT;
        }
        sheets[k].renew(lane, n);
        return 1;
    }

    public int lay(int k, int i, int v) {
        if (!isSheet(k)) {
            return BAD;
        }
        Sheet s = sheets[k];
        if (s.isNothing()) {
            return FAULT_BASE - NULL_FAULT;
        }
        if (i < 0 || i >= s.size) {
            return FAULT_BASE - INDEX_FAULT;
        }
        s.put(i, v);
        return 1;
    }

    public int read(int k, int lane, int f, int n) {
        if (!isSheet(k) || !isLane(lane) || n < 0 || n > MOST_READ) {
            return BAD;
        }
        Sheet s = sheets[k];
        int found = 0;
        int before = town.talks;
        for (int i = 0; i < n && found == 0; i++) {
            int at = f + 3 * i;
            found = s.faultInThree(lane, at);
            if (found == 0 && town.addTalk(s.cells[at], s.cells[at + 1], s.cells[at + 2]) < 0) {
                town.talks = before;
                return REFUSED_BASE - i;
            }
        }
        tornFault = found;
        return town.talks - before;
    }

    public int torn() {
        return tornFault;
    }

    public int count(int what) {
        switch (what) {
            case 0: return town.spentCoins();
            case 1: return rumours.known;
            case 2: return hisses.tested;
            case 3: return oneIf(isKept[0]) + oneIf(isKept[1]);
            case 4: return tape.length;
            case 5: return sheets[0].isNothing() ? NONE : sheets[0].size;
            case 6: return town.unspentWorths();
            default: return BAD;
        }
    }

    // ---- small helps

    private static int oneIf(boolean is) {
        return is ? 1 : 0;
    }

    private static boolean hasBit(int bits, int i) {
        return (bits >> i & 1) != 0;
    }

    private static int allOf(int n) {
        return (1 << n) - 1;
    }

    private static boolean isSubset(int bits, int n) {
        return bits >= 0 && bits <= allOf(n);
    }

    private static boolean isHour(int h) {
        return h >= 0 && h < HOURS;
    }

    private static boolean isSheet(int k) {
        return k >= 0 && k < SHEETS;
    }

    private static boolean isLane(int lane) {
        return lane >= 0 && lane < Sheet.LANES;
    }

    private static int stepSeed(int seed) {
        return seed * 1103515245 + 12345;
    }

    private static int drawn(int seed) {
        return seed >> 16 & 32767;
    }

    /** People, coins, talks, law and fee: all that a text tells. */
    private static final class Town {
        int people;
        final int[] kind = new int[MOST_PEOPLE];
        final int[] wish = new int[MOST_PEOPLE];
        final int[] purse = new int[MOST_PEOPLE];
        int coins;
        final int[] worth = new int[MOST_COINS];
        final int[] owner = new int[MOST_COINS];
        final boolean[] isClipped = new boolean[MOST_COINS];
        final int[] spentIn = new int[MOST_COINS];
        int talks;
        final int[] talkHour = new int[MOST_TALKS];
        final int[] speaker = new int[MOST_TALKS];
        final int[] hearer = new int[MOST_TALKS];
        int lawNow;
        int feeNow;

        Town() {
            clear();
        }

        void clear() {
            people = 0;
            coins = 0;
            talks = 0;
            lawNow = 0;
            feeNow = 1;
            for (int c = 0; c < MOST_COINS; c++) {
                isClipped[c] = false;
                spentIn[c] = NONE;
            }
        }

        void copyFrom(Town from) {
            people = from.people;
            System.arraycopy(from.kind, 0, kind, 0, MOST_PEOPLE);
            System.arraycopy(from.wish, 0, wish, 0, MOST_PEOPLE);
            System.arraycopy(from.purse, 0, purse, 0, MOST_PEOPLE);
            coins = from.coins;
            System.arraycopy(from.worth, 0, worth, 0, MOST_COINS);
            System.arraycopy(from.owner, 0, owner, 0, MOST_COINS);
            System.arraycopy(from.spentIn, 0, spentIn, 0, MOST_COINS);
            for (int c = 0; c < MOST_COINS; c++) {
                isClipped[c] = from.isClipped[c];
            }
            talks = from.talks;
            System.arraycopy(from.talkHour, 0, talkHour, 0, MOST_TALKS);
            System.arraycopy(from.speaker, 0, speaker, 0, MOST_TALKS);
            System.arraycopy(from.hearer, 0, hearer, 0, MOST_TALKS);
            lawNow = from.lawNow;
            feeNow = from.feeNow;
        }

        boolean hasOne(int p) {
            return p >= 0 && p < people;
        }

        boolean hasCoin(int c) {
            return c >= 0 && c < coins;
        }

        boolean isSpent(int c) {
            return spentIn[c] != NONE;
        }

        boolean canTalk(int h, int p, int q) {
            return isHour(h) && hasOne(p) && hasOne(q) && p != q;
        }

        int addTalk(int h, int p, int q) {
            if (!canTalk(h, p, q)) {
                return BAD;
            }
            if (talks >= MOST_TALKS) {
                return FULL;
            }
            putTalk(h, p, q);
            return talks;
        }

        /** Without a look at who there is: a text may name ones that come later. */
        void putTalk(int h, int p, int q) {
            if (talks < MOST_TALKS) {
                talkHour[talks] = h;
                speaker[talks] = p;
                hearer[talks] = q;
                talks++;
            }
        }

        int lengthBy(int c, int p) {
            int length = isClipped[c] ? Math.max(1, worth[c] - 1) : worth[c];
            return kind[p] == BEGGAR ? length + 1 : length;
        }

        /** Who would be silent in hour h by coin c alone, were it spent in hour from. */
        int silencedBy(int c, int from, int h) {
            int p = owner[c];
            return h >= from && h < from + lengthBy(c, p) ? 1 << p : 0;
        }

        int silentOnes(int h) {
            int bits = 0;
            for (int c = 0; c < coins; c++) {
                if (isSpent(c)) {
                    bits |= silencedBy(c, spentIn[c], h);
                }
            }
            return bits;
        }

        boolean isSaid(int silentBits, int p, int q) {
            if (kind[p] == TAXMAN) {
                return true;
            }
            boolean isSpeakerSilent = hasBit(silentBits, p);
            boolean isHearerSilent = hasBit(silentBits, q);
            switch (lawNow) {
                case 0: return !isHearerSilent;
                case 1: return !isHearerSilent || isSpeakerSilent;
                default: return !isHearerSilent && !isSpeakerSilent;
            }
        }

        boolean isTalkSaid(int k) {
            return isSaid(silentOnes(talkHour[k]), speaker[k], hearer[k]);
        }

        int spentCoins() {
            int n = 0;
            for (int c = 0; c < coins; c++) {
                n += oneIf(isSpent(c));
            }
            return n;
        }

        int unspentWorths() {
            int sum = 0;
            for (int c = 0; c < coins; c++) {
                sum += isSpent(c) ? 0 : worth[c];
            }
            return sum;
        }

        int raidedIn(int h) {
            int silentBits = silentOnes(h);
            int sum = 0;
            for (int p = 0; p < people; p++) {
                if (kind[p] != TAXMAN && !hasBit(silentBits, p)) {
                    sum += greatestUnspent(p);
                }
            }
            return sum;
        }

        private int greatestUnspent(int p) {
            int greatest = 0;
            for (int c = 0; c < coins; c++) {
                if (owner[c] == p && !isSpent(c)) {
                    greatest = Math.max(greatest, worth[c]);
                }
            }
            return greatest;
        }

        /** The price must be 1 at least: purses are divided by it. */
        int priceAfter(int price) {
            int divisor = Math.max(1, price);
            int asked = 0;
            for (int p = 0; p < people; p++) {
                asked += Math.min(wish[p], purse[p] / divisor);
            }
            int offered = unspentWorths();
            if (asked > offered) {
                return Math.min(MOST_PRICE, price + 1);
            }
            return asked < offered ? Math.max(1, price - 1) : price;
        }
    }

    /** The bytes of a text that is still being told. */
    private static final class Tape {
        static final int MOST_BYTES = 320;
        final byte[] bytes = new byte[MOST_BYTES];
        int length;

        int append(long v) {
            if (length + 8 > MOST_BYTES) {
                return FULL;
            }
            for (int i = 0; i < 8; i++) {
                bytes[length + i] = (byte) (v >> 56 - 8 * i);
            }
            length += 8;
            return length;
        }

        int cutTo(int n) {
            if (n < 0 || n > length) {
                return BAD;
            }
            int before = length;
            length = n;
            return before;
        }
    }

    /**
     * Reads the tape into a draft. Each step answers whether it went well, and
     * the first that does not leaves its fault; a token is only looked for when
     * the one before was taken, as the order of faults asks.
     */
    private static final class TextReader {
        private static final int END = 0, NAME = 1, NUMBER = 2, STOP = 3, UNKNOWN = 4, MOST_FIGURES = 2;
        private static final int NO_TOKEN = 1, MISPLACED = 2, OUT_OF_BOUNDS = 3, TWICE = 4, TOO_MANY = 5, MISSING = 6;

        final Town draft = new Town();
        int lines;
        int faultKind;
        int faultPlace;
        private final Tape tape;
        private boolean isLawTold;
        private boolean isFeeTold;
        private int token;
        private int start;
        private int behind;
        private int number;

        TextReader(Tape tape) {
            this.tape = tape;
        }

        boolean readTape() {
            draft.clear();
            lines = 0;
            faultKind = 0;
            faultPlace = 0;
            isLawTold = false;
            isFeeTold = false;
            behind = 0;
            // Every line has a byte at least, so the end comes within as many rounds.
            for (int i = 0; i <= tape.length; i++) {
                if (!readToken()) {
                    return false;
                }
                if (token == END) {
                    return checkNamed();
                }
                if (!readLine()) {
                    return false;
                }
                lines++;
            }
            return false;
        }

        private boolean fail(int kindOfFault, int place) {
            faultKind = kindOfFault;
            faultPlace = place;
            return false;
        }

        private static int tokenBegunBy(int b) {
            if (b >= 'a' && b <= 'z') {
                return NAME;
            }
            if (b >= '0' && b <= '9') {
                return NUMBER;
            }
            return b == ';' ? STOP : UNKNOWN;
        }

        private boolean readToken() {
            start = behind;
            while (start < tape.length && tape.bytes[start] == ' ') {
                start++;
            }
            behind = start;
            if (start >= tape.length) {
                token = END;
                return true;
            }
            token = tokenBegunBy(tape.bytes[start]);
            behind++;
            boolean isLong = token == NAME || token == NUMBER;
            while (isLong && behind < tape.length && tokenBegunBy(tape.bytes[behind]) == token) {
                behind++;
            }
            boolean isTooLong = token == NUMBER && behind - start > MOST_FIGURES;
            return token != UNKNOWN && !isTooLong || fail(NO_TOKEN, start);
        }

        private boolean isName(String word) {
            if (token != NAME || behind - start != word.length()) {
                return false;
            }
            for (int i = 0; i < word.length() && start + i < tape.length; i++) {
                if (tape.bytes[start + i] != word.charAt(i)) {
                    return false;
                }
            }
            return true;
        }

        private boolean readNumber(int low, int high) {
            if (!readToken()) {
                return false;
            }
            if (token != NUMBER) {
                return fail(MISPLACED, start);
            }
            number = 0;
            for (int i = start; i < behind; i++) {
                number = number * 10 + tape.bytes[i] - '0';
            }
            return number >= low && number <= high || fail(OUT_OF_BOUNDS, start);
        }

        private boolean readStop() {
            return readToken() && checkStop();
        }

        private boolean checkStop() {
            return token == STOP || fail(MISPLACED, start);
        }

        private boolean readLine() {
            if (isName("law")) {
                return readLaw();
            }
            if (isName("fee")) {
                return readFee();
            }
            if (isName("one")) {
                return readOne();
            }
            if (isName("coin")) {
                return readCoin();
            }
            if (isName("spend")) {
                return readSpend();
            }
            return isName("talk") ? readTalk() : fail(MISPLACED, start);
        }

        private boolean readLaw() {
            if (isLawTold) {
                return fail(TWICE, start);
            }
            isLawTold = true;
            if (!readNumber(0, MOST_LAW)) {
                return false;
            }
            draft.lawNow = number;
            return readStop();
        }

        private boolean readFee() {
            if (isFeeTold) {
                return fail(TWICE, start);
            }
            isFeeTold = true;
            if (!readNumber(0, MOST_FEE)) {
                return false;
            }
            draft.feeNow = number;
            return readStop();
        }

        private boolean readOne() {
            int p = draft.people;
            if (p >= MOST_PEOPLE) {
                return fail(TOO_MANY, start);
            }
            if (!readToken()) {
                return false;
            }
            draft.kind[p] = kindNamed();
            if (draft.kind[p] == NONE) {
                return fail(MISPLACED, start);
            }
            if (!readNumber(0, MOST_WISH)) {
                return false;
            }
            draft.wish[p] = number;
            if (!readNumber(0, MOST_PURSE)) {
                return false;
            }
            draft.purse[p] = number;
            draft.people++;
            return readStop();
        }

        private int kindNamed() {
            if (isName("plain")) {
                return 0;
            }
            if (isName("gossip")) {
                return GOSSIP;
            }
            if (isName("deaf")) {
                return DEAF;
            }
            if (isName("beggar")) {
                return BEGGAR;
            }
            return isName("taxman") ? TAXMAN : NONE;
        }

        private boolean readCoin() {
            int c = draft.coins;
            if (c >= MOST_COINS) {
                return fail(TOO_MANY, start);
            }
            if (!readNumber(1, MOST_WORTH)) {
                return false;
            }
            draft.worth[c] = number;
            if (!readNumber(0, MOST_PEOPLE - 1)) {
                return false;
            }
            draft.owner[c] = number;
            draft.coins++;
            if (!readToken()) {
                return false;
            }
            if (isName("clipped")) {
                draft.isClipped[c] = true;
                return readStop();
            }
            return checkStop();
        }

        private boolean readSpend() {
            if (!readNumber(0, MOST_COINS - 1)) {
                return false;
            }
            int c = number;
            if (draft.isSpent(c)) {
                return fail(TWICE, start);
            }
            if (!readNumber(0, HOURS - 1)) {
                return false;
            }
            draft.spentIn[c] = number;
            return readStop();
        }

        private boolean readTalk() {
            if (draft.talks >= MOST_TALKS) {
                return fail(TOO_MANY, start);
            }
            if (!readNumber(0, HOURS - 1)) {
                return false;
            }
            int h = number;
            if (!readNumber(0, MOST_PEOPLE - 1)) {
                return false;
            }
            int p = number;
            if (!readNumber(0, MOST_PEOPLE - 1)) {
                return false;
            }
            if (number == p) {
                return fail(TWICE, start);
            }
            draft.putTalk(h, p, number);
            return readStop();
        }

        private boolean checkNamed() {
            for (int c = 0; c < MOST_COINS; c++) {
                boolean isThere = draft.hasCoin(c);
                if (isThere && !draft.hasOne(draft.owner[c]) || !isThere && draft.isSpent(c)) {
                    return fail(MISSING, tape.length);
                }
            }
            for (int k = 0; k < draft.talks; k++) {
                if (!draft.hasOne(draft.speaker[k]) || !draft.hasOne(draft.hearer[k])) {
                    return fail(MISSING, tape.length);
                }
            }
            return true;
        }
    }

    /** Whom a rumour comes to, and what is known of one whose beginning is not. */
    private static final class Rumours {
        private static final int MOST_KNOWN = 6;
        int known;
        private final int[] knownOf = new int[MOST_KNOWN];
        private final boolean[] isKnower = new boolean[MOST_KNOWN];
        private final Town town;
        private final int[] silentBits = new int[HOURS];

        Rumours(Town town) {
            this.town = town;
        }

        int note(int p, boolean is) {
            if (known >= MOST_KNOWN) {
                return FULL;
            }
            knownOf[known] = p;
            isKnower[known] = is;
            known++;
            return known;
        }

        void takeSilence() {
            for (int h = 0; h < HOURS; h++) {
                silentBits[h] = town.silentOnes(h);
            }
        }

        private void addSilence(int c, int from) {
            for (int h = 0; h < HOURS; h++) {
                silentBits[h] |= town.silencedBy(c, from, h);
            }
        }

        int knowersBehind(int p, int lastHour) {
            int bits = 1 << p;
            for (int h = 0; h <= lastHour && h < HOURS; h++) {
                bits = knowersAfter(bits, h);
            }
            return bits;
        }

        int hourItComes(int p, int q) {
            if (p == q) {
                return 0;
            }
            int bits = 1 << p;
            for (int h = 0; h < HOURS; h++) {
                bits = knowersAfter(bits, h);
                if (hasBit(bits, q)) {
                    return h;
                }
            }
            return NONE;
        }

        private int knowersAfter(int before, int h) {
            int bits = before;
            for (int k = 0; k < town.talks; k++) {
                int p = town.speaker[k];
                int q = town.hearer[k];
                if (town.talkHour[k] != h || !town.isSaid(silentBits[h], p, q)) {
                    continue;
                }
                if (hasBit(bits, p)) {
                    bits |= comingTo(q);
                }
                boolean isBothWays = town.kind[p] == GOSSIP || town.kind[q] == GOSSIP;
                if (isBothWays && hasBit(bits, q)) {
                    bits |= comingTo(p);
                }
            }
            return bits;
        }

        private int comingTo(int p) {
            return town.kind[p] == DEAF ? 0 : 1 << p;
        }

        int hushingHour(int c, int p, int q) {
            for (int h = 0; h < HOURS; h++) {
                takeSilence();
                addSilence(c, h);
                if (hourItComes(p, q) == NONE) {
                    return h;
                }
            }
            return NONE;
        }

        boolean canBeginWith(int p) {
            int bits = knowersBehind(p, HOURS - 1);
            for (int i = 0; i < known; i++) {
                if (hasBit(bits, knownOf[i]) != isKnower[i]) {
                    return false;
                }
            }
            return true;
        }
    }

    /** Finds the cheapest gifts of coins by trying them coin by coin, in the order of the document. */
    private static final class Funeral {
        private static final int NO_WAY = MOST_COINS * (MOST_WORTH + MOST_FEE) + 1;
        int bestCost;
        final int[] bestTo = new int[MOST_COINS];
        private final Town town;
        private final int[] givenTo = new int[MOST_COINS];
        private final int[] need = new int[MOST_PEOPLE];

        Funeral(Town town) {
            this.town = town;
        }

        boolean plan(int some, int n) {
            for (int p = 0; p < MOST_PEOPLE; p++) {
                need[p] = hasBit(some, p) ? n : 0;
            }
            bestCost = NO_WAY;
            giveFrom(0, 0);
            return bestCost != NO_WAY;
        }

        private void giveFrom(int c, int cost) {
            // What comes later and costs the same is not the first.
            if (cost >= bestCost) {
                return;
            }
            int needy = needyOnes();
            if (needy == 0) {
                takeAsBest(c, cost);
                return;
            }
            if (needy > town.coins - c || c >= MOST_COINS) {
                return;
            }
            givenTo[c] = NONE;
            giveFrom(c + 1, cost);
            for (int p = 0; p < town.people && !town.isSpent(c); p++) {
                // To give one who has enough costs more than not to give, so it is never cheapest.
                if (need[p] > 0) {
                    int length = town.lengthBy(c, p);
                    givenTo[c] = p;
                    need[p] -= length;
                    giveFrom(c + 1, cost + costTo(c, p));
                    need[p] += length;
                }
            }
        }

        private int costTo(int c, int p) {
            return town.owner[c] == p ? town.worth[c] : town.worth[c] + town.feeNow;
        }

        private int needyOnes() {
            int n = 0;
            for (int p = 0; p < town.people; p++) {
                n += oneIf(need[p] > 0);
            }
            return n;
        }

        private void takeAsBest(int givenUpTo, int cost) {
            bestCost = cost;
            for (int c = 0; c < MOST_COINS; c++) {
                bestTo[c] = c < givenUpTo ? givenTo[c] : NONE;
            }
        }
    }

    /** What was tested, and the sets of false coins that it leaves. */
    private static final class Hisses {
        private static final int MOST_TESTED = 8;
        private static final int MOST_SETS = 1 << MOST_COINS;
        int tested;
        int sets;
        final int[] fitting = new int[MOST_SETS];
        private final int[] testedCoins = new int[MOST_TESTED];
        private final boolean[] hasHissed = new boolean[MOST_TESTED];

        int note(int some, boolean hissed) {
            if (tested >= MOST_TESTED) {
                return FULL;
            }
            testedCoins[tested] = some;
            hasHissed[tested] = hissed;
            tested++;
            return tested;
        }

        void findSets(int k, int coins) {
            sets = 0;
            for (int set = 0; set <= allOf(coins) && set < MOST_SETS; set++) {
                if (Integer.bitCount(set) == k && isAsTested(set)) {
                    fitting[sets] = set;
                    sets++;
                }
            }
        }

        private boolean isAsTested(int set) {
            for (int i = 0; i < tested; i++) {
                if (((set & testedCoins[i]) != 0) != hasHissed[i]) {
                    return false;
                }
            }
            return true;
        }

        int inAll() {
            int bits = -1;
            for (int i = 0; i < sets; i++) {
                bits &= fitting[i];
            }
            return bits;
        }

        int inAny() {
            int bits = 0;
            for (int i = 0; i < sets; i++) {
                bits |= fitting[i];
            }
            return bits;
        }

        int leftAtWorst(int some) {
            int hissing = 0;
            for (int i = 0; i < sets; i++) {
                hissing += oneIf((fitting[i] & some) != 0);
            }
            return Math.max(hissing, sets - hissing);
        }
    }

    /** A row of cells of one lane; its room is kept, so that a new row makes no object. */
    private static final class Sheet {
        static final int LANES = 3, MOST_CELLS = 40;
        private static final int BYTES = 0, SHORTS = 1;
        final int[] cells = new int[MOST_CELLS];
        int size;
        private int lane = NONE;

        boolean isNothing() {
            return lane == NONE;
        }

        void renew(int newLane, int n) {
            lane = newLane;
            size = n;
            for (int i = 0; i < MOST_CELLS; i++) {
                cells[i] = 0;
            }
        }

        void put(int i, int v) {
            switch (lane) {
                case BYTES: cells[i] = (byte) v; break;
                case SHORTS: cells[i] = (short) v; break;
                default: cells[i] = v;
            }
        }

        /** The fault that the machine finds in three cells from i on, taken as of a lane; 0. */
        int faultInThree(int asLane, int i) {
            if (isNothing()) {
                return NULL_FAULT;
            }
            if (lane != asLane) {
                return CAST_FAULT;
            }
            return i >= 0 && i <= size - 3 ? 0 : INDEX_FAULT;
        }
    }
}
