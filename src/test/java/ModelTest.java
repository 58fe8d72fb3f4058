import java.nio.charset.StandardCharsets;
import java.util.ArrayList;
import java.util.Arrays;
import java.util.HashSet;
import java.util.List;
import java.util.Random;
import java.util.Set;
import java.util.TreeSet;

/** Runs by a seed on fresh objects: each answer is held against a plain second writing of the document. */
public final class ModelTest {
    private static final int BAD = -1, STATE = -2, FULL = -3, NONE = -4;
    /** What an object answers behind its 512th call is free, so that no run asks for more. */
    private static final int RUNS = 12000, MOST_CALLS = 512;
    /** A step (a text of 40 feeds, then the rules), and behind all steps every coin and talk. */
    private static final int STEP = 40 + 5 + 5, LAST = 6 * 5 + 10 * 4;

    static final class One {
        int kind, wish, purse;
    }

    static final class Coin {
        int worth, owner, hour = NONE;
        boolean clipped;

        Coin copy() {
            Coin c = new Coin();
            c.worth = worth;
            c.owner = owner;
            c.hour = hour;
            c.clipped = clipped;
            return c;
        }
    }

    record Talk(int hour, int who, int whom) { }

    record Known(int p, boolean is) { }

    record Tested(int some, boolean hissed) { }

    record Image(List<Coin> coins, List<Talk> talks, int law, int fee) { }

    static final class Fault extends Exception {
        private static final long serialVersionUID = 1;
        final int kind, place;

        Fault(int kind, int place) {
            this.kind = kind;
            this.place = place;
        }
    }

    /** The text, read by a pattern for each line. */
    static final class Parser {
        final String t;
        int at = 0, begin = 0;
        String token = "";
        final List<One> ones = new ArrayList<>();
        final List<Coin> coins = new ArrayList<>();
        final List<Talk> talks = new ArrayList<>();
        final List<int[]> spends = new ArrayList<>();
        Integer law = null, fee = null;
        int lines = 0;

        Parser(String t) {
            this.t = t;
        }

        void token() throws Fault {
            while (at < t.length() && t.charAt(at) == ' ') {
                at++;
            }
            begin = at;
            if (at == t.length()) {
                token = "";
                return;
            }
            String rest = t.substring(at);
            token = rest.replaceFirst("(?s)^([a-z]+|[0-9]+|;).*$", "$1");
            if (!token.matches("[a-z]+|[0-9]{1,2}|;")) {
                throw new Fault(1, begin);
            }
            at += token.length();
        }

        int number(int low, int high) throws Fault {
            token();
            if (!token.matches("[0-9]+")) {
                throw new Fault(2, begin);
            }
            int v = Integer.parseInt(token);
            if (v < low || v > high) {
                throw new Fault(3, begin);
            }
            return v;
        }

        void stop() throws Fault {
            if (!token.equals(";")) {
                throw new Fault(2, begin);
            }
            lines++;
        }

        void all() throws Fault {
            for (token(); !token.isEmpty(); token()) {
                line(token);
            }
            boolean missing = false;
            for (Coin c : coins) {
                missing |= c.owner >= ones.size();
            }
            for (int[] s : spends) {
                missing |= s[0] >= coins.size();
            }
            for (Talk k : talks) {
                missing |= k.who >= ones.size() || k.whom >= ones.size();
            }
            if (missing) {
                throw new Fault(6, t.length());
            }
            for (int[] s : spends) {
                coins.get(s[0]).hour = s[1];
            }
        }

        void line(String name) throws Fault {
            if (name.equals("law")) {
                if (law != null) {
                    throw new Fault(4, begin);
                }
                law = number(0, 2);
                token();
            } else if (name.equals("fee")) {
                if (fee != null) {
                    throw new Fault(4, begin);
                }
                fee = number(0, 9);
                token();
            } else if (name.equals("one")) {
                if (ones.size() == 6) {
                    throw new Fault(5, begin);
                }
                One o = new One();
                token();
                o.kind = Arrays.asList("plain", "gossip", "deaf", "beggar", "taxman").indexOf(token);
                if (o.kind < 0) {
                    throw new Fault(2, begin);
                }
                o.wish = number(0, 9);
                o.purse = number(0, 50);
                ones.add(o);
                token();
            } else if (name.equals("coin")) {
                if (coins.size() == 6) {
                    throw new Fault(5, begin);
                }
                Coin c = new Coin();
                c.worth = number(1, 3);
                c.owner = number(0, 5);
                coins.add(c);
                token();
                if (token.equals("clipped")) {
                    c.clipped = true;
                    token();
                }
            } else if (name.equals("spend")) {
                int c = number(0, 5);
                for (int[] s : spends) {
                    if (s[0] == c) {
                        throw new Fault(4, begin);
                    }
                }
                spends.add(new int[] {c, number(0, 11)});
                token();
            } else if (name.equals("talk")) {
                if (talks.size() == 10) {
                    throw new Fault(5, begin);
                }
                int h = number(0, 11);
                int p = number(0, 5);
                int q = number(0, 5);
                if (p == q) {
                    throw new Fault(4, begin);
                }
                talks.add(new Talk(h, p, q));
                token();
            } else {
                throw new Fault(2, begin);
            }
            stop();
        }
    }

    private StringBuilder tape = new StringBuilder();
    private int fault = 0, law = 0, fee = 1, torn = 0;
    private List<One> ones = new ArrayList<>();
    private List<Coin> coins = new ArrayList<>();
    private List<Talk> talks = new ArrayList<>();
    private List<Known> known = new ArrayList<>();
    private List<Tested> tested = new ArrayList<>();
    private final Image[] images = new Image[2];
    private final Object[] sheets = new Object[4];

    private boolean isOne(int p) {
        return p >= 0 && p < ones.size();
    }

    private boolean isCoin(int c) {
        return c >= 0 && c < coins.size();
    }

    private static boolean isIn(int v, int low, int high) {
        return v >= low && v <= high;
    }

    int feed(long v) {
        if (tape.length() + 8 > 320) {
            return FULL;
        }
        for (int i = 7; i >= 0; i--) {
            tape.append((char) (v >>> 8 * i & 255));
        }
        return tape.length();
    }

    int end(int n) {
        if (!isIn(n, 0, tape.length())) {
            return BAD;
        }
        int had = tape.length();
        tape.setLength(n);
        return had;
    }

    int text() {
        Parser parser = new Parser(tape.toString());
        tape.setLength(0);
        try {
            parser.all();
        } catch (Fault f) {
            fault = f.kind;
            return -10 - f.place;
        }
        fault = 0;
        ones = parser.ones;
        coins = parser.coins;
        talks = parser.talks;
        law = parser.law == null ? 0 : parser.law;
        fee = parser.fee == null ? 1 : parser.fee;
        known.clear();
        tested.clear();
        Arrays.fill(images, null);
        return parser.lines;
    }

    private int length(Coin c, int p) {
        int n = c.worth;
        if (c.clipped && n > 1) {
            n--;
        }
        return ones.get(p).kind == 3 ? n + 1 : n;
    }

    private boolean silentThen(List<Coin> of, int p, int h) {
        for (Coin c : of) {
            if (c.owner == p && c.hour != NONE && c.hour <= h && h - c.hour < length(c, p)) {
                return true;
            }
        }
        return false;
    }

    private boolean isSaid(List<Coin> of, int h, int p, int q) {
        boolean a = silentThen(of, p, h);
        boolean b = silentThen(of, q, h);
        return ones.get(p).kind == 4 || (law == 2 ? !(a || b) : !b || law == 1 && a && b);
    }

    private Set<Integer> knowers(List<Coin> of, int begins, int last) {
        Set<Integer> who = new HashSet<>(Set.of(begins));
        for (int h = 0; h <= last; h++) {
            for (Talk t : talks) {
                if (t.hour != h || !isSaid(of, h, t.who, t.whom)) {
                    continue;
                }
                boolean gossip = ones.get(t.who).kind == 1 || ones.get(t.whom).kind == 1;
                boolean forth = who.contains(t.who);
                boolean round = gossip && who.contains(t.whom);
                if (forth && ones.get(t.whom).kind != 2) {
                    who.add(t.whom);
                }
                if (round && ones.get(t.who).kind != 2) {
                    who.add(t.who);
                }
            }
        }
        return who;
    }

    private static int bits(Set<Integer> set) {
        int b = 0;
        for (int i : set) {
            b |= 1 << i;
        }
        return b;
    }

    int coin(int c, int what) {
        if (!isCoin(c) || !isIn(what, 0, 4)) {
            return BAD;
        }
        Coin x = coins.get(c);
        return new int[] {x.worth, x.owner, x.clipped ? 1 : 0, x.hour, length(x, x.owner)}[what];
    }

    int one(int p, int what) {
        if (!isOne(p) || !isIn(what, 0, 2)) {
            return BAD;
        }
        One o = ones.get(p);
        return new int[] {o.kind, o.wish, o.purse}[what];
    }

    int talk(int k, int what) {
        if (!isIn(k, 0, talks.size() - 1) || !isIn(what, 0, 3)) {
            return BAD;
        }
        Talk t = talks.get(k);
        return new int[] {t.hour, t.who, t.whom, isSaid(coins, t.hour, t.who, t.whom) ? 1 : 0}[what];
    }

    int give(int c, int p) {
        if (!isCoin(c) || !isOne(p)) {
            return BAD;
        }
        Coin x = coins.get(c);
        if (x.hour != NONE) {
            return STATE;
        }
        int was = x.owner;
        x.owner = p;
        return was;
    }

    int clip(int c) {
        if (!isCoin(c)) {
            return BAD;
        }
        boolean was = coins.get(c).clipped;
        coins.get(c).clipped = true;
        return was ? 0 : 1;
    }

    int spend(int c, int h) {
        if (!isCoin(c) || !isIn(h, 0, 11)) {
            return BAD;
        }
        if (coins.get(c).hour != NONE) {
            return STATE;
        }
        coins.get(c).hour = h;
        return length(coins.get(c), coins.get(c).owner);
    }

    int undo(int c) {
        if (!isCoin(c)) {
            return BAD;
        }
        int was = coins.get(c).hour;
        coins.get(c).hour = NONE;
        return was;
    }

    int speak(int h, int p, int q) {
        if (!isIn(h, 0, 11) || !isOne(p) || !isOne(q) || p == q) {
            return BAD;
        }
        if (talks.size() == 10) {
            return FULL;
        }
        talks.add(new Talk(h, p, q));
        return talks.size();
    }

    int silent(int h) {
        if (!isIn(h, 0, 11)) {
            return BAD;
        }
        Set<Integer> set = new TreeSet<>();
        for (int p = 0; p < ones.size(); p++) {
            if (silentThen(coins, p, h)) {
                set.add(p);
            }
        }
        return bits(set);
    }

    int quiet(int p) {
        if (!isOne(p)) {
            return BAD;
        }
        Set<Integer> set = new TreeSet<>();
        for (int h = 0; h < 12; h++) {
            if (silentThen(coins, p, h)) {
                set.add(h);
            }
        }
        return bits(set);
    }

    int may(int h, int p, int q) {
        if (!isIn(h, 0, 11) || !isOne(p) || !isOne(q) || p == q) {
            return BAD;
        }
        return isSaid(coins, h, p, q) ? 1 : 0;
    }

    int said() {
        int b = 0;
        for (int k = 0; k < talks.size(); k++) {
            b += talk(k, 3) << k;
        }
        return b;
    }

    int knows(int p, int h) {
        return isOne(p) && isIn(h, 0, 11) ? bits(knowers(coins, p, h)) : BAD;
    }

    int learns(int p, int q) {
        if (!isOne(p) || !isOne(q)) {
            return BAD;
        }
        for (int h = 0; h < 12; h++) {
            if (knowers(coins, p, h).contains(q)) {
                return h;
            }
        }
        return NONE;
    }

    int hush(int p, int q, int what) {
        if (!isOne(p) || !isOne(q) || p == q || !isIn(what, 0, 1)) {
            return BAD;
        }
        if (!knowers(coins, p, 11).contains(q)) {
            return STATE;
        }
        for (int c = 0; c < coins.size(); c++) {
            for (int h = 0; h < 12 && coins.get(c).hour == NONE; h++) {
                List<Coin> others = copy(coins);
                others.get(c).hour = h;
                if (!knowers(others, p, 11).contains(q)) {
                    return what == 0 ? c : h;
                }
            }
        }
        return NONE;
    }

    int hear(int p, boolean is) {
        if (!isOne(p)) {
            return BAD;
        }
        if (known.size() == 6) {
            return FULL;
        }
        known.add(new Known(p, is));
        return known.size();
    }

    int forget(int n) {
        if (!isIn(n, 0, known.size())) {
            return BAD;
        }
        int had = known.size();
        known = new ArrayList<>(known.subList(0, n));
        return had;
    }

    int first() {
        Set<Integer> set = new TreeSet<>();
        for (int p = 0; p < ones.size(); p++) {
            Set<Integer> who = knowers(coins, p, 11);
            if (known.stream().allMatch(k -> who.contains(k.p) == k.is)) {
                set.add(p);
            }
        }
        return bits(set);
    }

    /** All ways of giving, counted through in their order: not given, then by ones. */
    int funeral(int some, int n, int what) {
        boolean ofCoin = what >= 10 && isCoin(what - 10);
        if (some < 0 || some >= 1 << ones.size() || !isIn(n, 1, 12) || what != 0 && !ofCoin) {
            return BAD;
        }
        int base = ones.size() + 1;
        int ways = 1;
        for (int i = 0; i < coins.size(); i++) {
            ways *= base;
        }
        int best = -1;
        int[] bestTo = null;
        int[] to = new int[coins.size()];
        for (int way = 0; way < ways; way++) {
            int rest = way;
            for (int c = coins.size() - 1; c >= 0; c--) {
                to[c] = rest % base - 1;
                rest /= base;
            }
            int cost = costOf(to, some, n);
            if (cost >= 0 && (best < 0 || cost < best)) {
                best = cost;
                bestTo = to.clone();
            }
        }
        if (bestTo == null) {
            return NONE;
        }
        return !ofCoin ? best : bestTo[what - 10] < 0 ? NONE : bestTo[what - 10];
    }

    private int costOf(int[] to, int some, int n) {
        int[] got = new int[6];
        int cost = 0;
        for (int c = 0; c < to.length; c++) {
            if (to[c] < 0) {
                continue;
            }
            Coin x = coins.get(c);
            if (x.hour != NONE || (some >> to[c] & 1) == 0) {
                return -1;
            }
            got[to[c]] += length(x, to[c]);
            cost += x.worth + (x.owner == to[c] ? 0 : fee);
        }
        for (int p = 0; p < 6; p++) {
            if ((some >> p & 1) == 1 && got[p] < n) {
                return -1;
            }
        }
        return cost;
    }

    int raid(int what) {
        int[] all = new int[12];
        int best = 0;
        for (int h = 0; h < 12; h++) {
            for (int p = 0; p < ones.size(); p++) {
                int most = 0;
                for (Coin c : coins) {
                    most = c.owner == p && c.hour == NONE ? Math.max(most, c.worth) : most;
                }
                all[h] += ones.get(p).kind == 4 || silentThen(coins, p, h) ? 0 : most;
            }
            best = all[h] > all[best] ? h : best;
        }
        return what == 0 ? all[best] : what == 1 ? best : isIn(what, 10, 21) ? all[what - 10] : BAD;
    }

    int settle(int v, int what) {
        if (!isIn(v, 1, 99) || !isIn(what, 0, 1)) {
            return BAD;
        }
        Set<Integer> were = new HashSet<>();
        int price = v;
        for (int round = 1; were.add(price); round++) {
            int ask = -count(6);
            for (One o : ones) {
                int hours = 0;
                while (hours < o.wish && (hours + 1) * price <= o.purse) {
                    hours++;
                }
                ask += hours;
            }
            int then = Math.min(99, Math.max(1, price + Integer.signum(ask)));
            if (then == price) {
                return what == 0 ? price : round;
            }
            price = then;
        }
        return NONE;
    }

    int test(int some, boolean hissed) {
        if (some <= 0 || some >= 1 << coins.size()) {
            return BAD;
        }
        if (tested.size() == 8) {
            return FULL;
        }
        tested.add(new Tested(some, hissed));
        return tested.size();
    }

    int untest(int n) {
        if (!isIn(n, 0, tested.size())) {
            return BAD;
        }
        int had = tested.size();
        tested = new ArrayList<>(tested.subList(0, n));
        return had;
    }

    private List<Integer> sets(int k) {
        List<Integer> sets = new ArrayList<>();
        for (int s = 0; s < 1 << coins.size(); s++) {
            int set = s;
            if (Integer.bitCount(s) == k && tested.stream().allMatch(t -> (t.some & set) != 0 == t.hissed)) {
                sets.add(s);
            }
        }
        return sets;
    }

    int fakes(int k, int what) {
        if (!isIn(k, 0, 3) || !isIn(what, 0, 3)) {
            return BAD;
        }
        List<Integer> sets = sets(k);
        if (what == 0) {
            return sets.size();
        }
        if (sets.isEmpty()) {
            return NONE;
        }
        int inAll = 0;
        int inNone = 0;
        for (int c = 0; c < coins.size(); c++) {
            int bit = 1 << c;
            inAll |= sets.stream().allMatch(s -> (s & bit) != 0) ? bit : 0;
            inNone |= sets.stream().noneMatch(s -> (s & bit) != 0) ? bit : 0;
        }
        return what == 1 ? sets.get(0) : what == 2 ? inAll : inNone;
    }

    int next(int k, int what) {
        if (!isIn(k, 0, 3) || !isIn(what, 0, 1)) {
            return BAD;
        }
        List<Integer> sets = sets(k);
        int best = NONE;
        int left = NONE;
        for (int some = (1 << coins.size()) - 1; some > 0; some--) {
            int mask = some;
            int hiss = (int) sets.stream().filter(s -> (s & mask) != 0).count();
            int worst = Math.max(hiss, sets.size() - hiss);
            if (worst < sets.size() && (left == NONE || worst <= left)) {
                left = worst;
                best = some;
            }
        }
        return what == 0 ? best : left;
    }

    int chatter(int seed, int n) {
        if (!isIn(n, 1, 60)) {
            return BAD;
        }
        if (ones.isEmpty()) {
            return STATE;
        }
        long s = seed;
        int many = 0;
        for (int i = 0; i < n; i++) {
            int[] d = new int[3];
            for (int j = 0; j < 3; j++) {
                s = (s * 1103515245L + 12345L) & 0xffffffffL;
                d[j] = (int) (s >> 16 & 0x7fff) % (j == 0 ? 12 : ones.size());
            }
            many += Math.max(0, may(d[0], d[1], d[2]));
        }
        return many;
    }

    private static List<Coin> copy(List<Coin> from) {
        List<Coin> to = new ArrayList<>();
        for (Coin c : from) {
            to.add(c.copy());
        }
        return to;
    }

    int keep(int k) {
        if (!isIn(k, 0, 1)) {
            return BAD;
        }
        int was = images[k] == null ? 0 : 1;
        images[k] = new Image(copy(coins), new ArrayList<>(talks), law, fee);
        return was;
    }

    int back(int k) {
        if (!isIn(k, 0, 1)) {
            return BAD;
        }
        if (images[k] == null) {
            return STATE;
        }
        coins = copy(images[k].coins);
        talks = new ArrayList<>(images[k].talks);
        law = images[k].law;
        fee = images[k].fee;
        return talks.size();
    }

    // In the sheets the machine itself is asked what it finds.

    int sheet(int k, int lane, int n) {
        if (!isIn(k, 0, 3) || !isIn(lane, 0, 2) || n > 40) {
            return BAD;
        }
        try {
            sheets[k] = lane == 0 ? new byte[n] : lane == 1 ? new short[n] : new int[n];
            return 1;
        } catch (NegativeArraySizeException e) {
            return -14;
        }
    }

    int lay(int k, int i, int v) {
        if (!isIn(k, 0, 3)) {
            return BAD;
        }
        try {
            if (sheets[k] instanceof byte[] b) {
                b[i] = (byte) v;
            } else if (sheets[k] instanceof short[] s) {
                s[i] = (short) v;
            } else {
                ((int[]) sheets[k])[i] = v;
            }
            return 1;
        } catch (NullPointerException e) {
            return -11;
        } catch (ArrayIndexOutOfBoundsException e) {
            return -12;
        }
    }

    private int cell(Object s, int lane, int i) {
        return lane == 0 ? ((byte[]) s)[i] : lane == 1 ? ((short[]) s)[i] : ((int[]) s)[i];
    }

    int read(int k, int lane, int f, int n) {
        if (!isIn(k, 0, 3) || !isIn(lane, 0, 2) || !isIn(n, 0, 13)) {
            return BAD;
        }
        List<Talk> whole = new ArrayList<>();
        int found = 0;
        try {
            for (int i = 0; i < n; i++) {
                int at = f + 3 * i;
                whole.add(new Talk(cell(sheets[k], lane, at), cell(sheets[k], lane, at + 1),
                    cell(sheets[k], lane, at + 2)));
            }
        } catch (NullPointerException e) {
            found = 1;
        } catch (ArrayIndexOutOfBoundsException e) {
            found = 2;
        } catch (ClassCastException e) {
            found = 3;
        }
        List<Talk> before = new ArrayList<>(talks);
        for (int i = 0; i < whole.size(); i++) {
            Talk t = whole.get(i);
            if (speak(t.hour, t.who, t.whom) < 0) {
                talks = before;
                return -20 - i;
            }
        }
        torn = found;
        return whole.size();
    }

    int count(int what) {
        int spent = 0;
        int worths = 0;
        for (Coin c : coins) {
            spent += c.hour == NONE ? 0 : 1;
            worths += c.hour == NONE ? c.worth : 0;
        }
        int kept = (images[0] == null ? 0 : 1) + (images[1] == null ? 0 : 1);
        int cells = sheets[0] == null ? NONE : java.lang.reflect.Array.getLength(sheets[0]);
        int[] all = {spent, known.size(), tested.size(), kept, tape.length(), cells, worths};
        return isIn(what, 0, 6) ? all[what] : BAD;
    }

    int rule(int what) {
        int[] all = {ones.size(), coins.size(), talks.size(), law, fee};
        return isIn(what, 0, 4) ? all[what] : BAD;
    }

    int law(int v) {
        int was = law;
        law = isIn(v, 0, 2) ? v : law;
        return isIn(v, 0, 2) ? was : BAD;
    }

    int fee(int v) {
        int was = fee;
        fee = isIn(v, 0, 9) ? v : fee;
        return isIn(v, 0, 9) ? was : BAD;
    }

    // ---- the runs

    private static Random random;
    private static final StringBuilder trace = new StringBuilder();
    private static int calls = 0;
    private static int callsOfRun = 0;

    /** A number mostly from 0 up to a bound, now and then beside it or far from it. */
    private static int near(int most) {
        int r = random.nextInt(40);
        if (r == 0) {
            return -1;
        }
        if (r == 1) {
            return most + 1;
        }
        if (r == 2) {
            int[] far = {Integer.MIN_VALUE, Integer.MAX_VALUE, -20, 1 << 20, Integer.MAX_VALUE - 1};
            return far[random.nextInt(far.length)];
        }
        return random.nextInt(Math.max(1, most + 1));
    }

    private static int pick(int n) {
        return random.nextInt(n);
    }

    private static String line() {
        String[] kinds = {"plain", "gossip", "deaf", "beggar", "taxman"};
        switch (pick(12)) {
            case 0: return "law " + pick(3) + ";";
            case 1: return "fee " + pick(10) + ";";
            case 2: case 3: case 4: return "one " + kinds[pick(5)] + " " + pick(10) + " " + pick(51) + ";";
            case 5: case 6: case 7: return "coin " + (1 + pick(3)) + " " + pick(6) + (pick(3) == 0 ? " clipped;" : ";");
            case 8: return "spend " + pick(6) + " " + pick(12) + ";";
            default: return "talk " + pick(12) + " " + pick(6) + " " + pick(6) + ";";
        }
    }

    /** A text that is mostly taken: people first, then what names them. */
    private static String town() {
        String[] kinds = {"plain", "gossip", "deaf", "beggar", "taxman", "plain"};
        StringBuilder b = new StringBuilder();
        int people = 2 + pick(5);
        int coins = pick(7);
        int talks = pick(9);
        b.append(pick(2) == 0 ? "law " + pick(3) + ";" : "").append(pick(2) == 0 ? "fee " + pick(10) + ";" : "");
        for (int i = 0; i < people; i++) {
            b.append("one ").append(kinds[pick(6)]).append(' ').append(pick(10)).append(' ').append(pick(51)).append(';');
        }
        for (int i = 0; i < coins; i++) {
            b.append("coin ").append(1 + pick(3)).append(' ').append(pick(people)).append(pick(3) == 0 ? "clipped;" : ";");
        }
        for (int i = 0; i < coins; i++) {
            b.append(pick(3) == 0 ? "spend " + i + " " + pick(12) + ";" : "");
        }
        for (int i = 0; i < talks; i++) {
            int p = pick(people);
            b.append("talk ").append(pick(12)).append(' ').append(p).append(' ').append((p + 1 + pick(people - 1)) % people).append(';');
        }
        return b.toString();
    }

    private static String anyText() {
        StringBuilder b = new StringBuilder();
        if (pick(3) > 0) {
            b.append(town());
        } else {
            int n = pick(20);
            for (int i = 0; i < n; i++) {
                b.append(line());
            }
        }
        String odd = " ;09az#A{/:`\u00ff\u0000\n123";
        int changes = pick(3) == 0 ? 1 + pick(2) : 0;
        for (int i = 0; i < changes && b.length() > 0; i++) {
            int at = pick(b.length());
            switch (pick(4)) {
                case 0: b.deleteCharAt(at); break;
                case 1: b.insert(at, odd.charAt(pick(odd.length()))); break;
                case 2: b.setCharAt(at, odd.charAt(pick(odd.length()))); break;
                default: b.setLength(at);
            }
        }
        b.setLength(Math.min(b.length(), 320));
        return b.toString();
    }

    private static void due(String call, int got, int want) {
        calls++;
        callsOfRun++;
        trace.append(call).append(" -> ").append(got).append('\n');
        if (got != want) {
            System.out.println(trace);
            System.out.println(call + " answered " + got + ", due is " + want);
            System.exit(1);
        }
    }

    private static void putText(SilenceCoin x, ModelTest m, String text) {
        byte[] bytes = text.getBytes(StandardCharsets.ISO_8859_1);
        trace.append("text: ").append(text).append('\n');
        for (int i = 0; i < bytes.length; i += 8) {
            long v = 0;
            for (int j = i; j < i + 8; j++) {
                v = v << 8 | (j < bytes.length ? bytes[j] & 255 : 32);
            }
            due("feed(" + v + ")", x.feed(v), m.feed(v));
        }
        due("end", x.end(bytes.length), m.end(bytes.length));
        due("text()", x.text(), m.text());
        due("fault()", x.fault(), m.fault);
    }

    private static void call(SilenceCoin x, ModelTest m) {
        int p = near(m.ones.size() - 1), q = near(m.ones.size() - 1), h = near(11), c = near(m.coins.size() - 1);
        int some = near((1 << m.ones.size()) - 1), bag = near((1 << m.coins.size()) - 1);
        int what = near(1), k = near(3), n = near(12), lane = near(2), v = near(40);
        boolean is = random.nextBoolean();
        String args = " p" + p + " q" + q + " h" + h + " c" + c + " some" + some + " bag" + bag + " what" + what
            + " k" + k + " n" + n + " lane" + lane + " v" + v + " is" + is;
        switch (pick(46)) {
            case 0: due("end" + args, x.end(v), m.end(v)); break;
            case 1: due("feed" + args, x.feed(v * 0x0101010101L), m.feed(v * 0x0101010101L)); break;
            case 2: due("rule" + args, x.rule(n / 2), m.rule(n / 2)); break;
            case 3: due("one" + args, x.one(p, k), m.one(p, k)); break;
            case 4: due("coin" + args, x.coin(c, n / 2), m.coin(c, n / 2)); break;
            case 5: due("talk" + args, x.talk(n - 2, k), m.talk(n - 2, k)); break;
            case 6: due("law" + args, x.law(lane), m.law(lane)); break;
            case 7: due("fee" + args, x.fee(n), m.fee(n)); break;
            case 8: due("give" + args, x.give(c, p), m.give(c, p)); break;
            case 9: due("clip" + args, x.clip(c), m.clip(c)); break;
            case 10: case 11: due("spend" + args, x.spend(c, h), m.spend(c, h)); break;
            case 12: case 13: due("undo" + args, x.undo(c), m.undo(c)); break;
            case 14: due("speak" + args, x.speak(h, p, q), m.speak(h, p, q)); break;
            case 15: due("silent" + args, x.silent(h), m.silent(h)); break;
            case 16: due("quiet" + args, x.quiet(p), m.quiet(p)); break;
            case 17: due("may" + args, x.may(h, p, q), m.may(h, p, q)); break;
            case 18: due("said" + args, x.said(), m.said()); break;
            case 19: due("knows" + args, x.knows(p, h), m.knows(p, h)); break;
            case 20: due("learns" + args, x.learns(p, q), m.learns(p, q)); break;
            case 21: case 22: due("hush" + args, x.hush(p, q, what), m.hush(p, q, what)); break;
            case 23: due("hear" + args, x.hear(p, is), m.hear(p, is)); break;
            case 24: due("forget" + args, x.forget(n / 2), m.forget(n / 2)); break;
            case 25: due("first" + args, x.first(), m.first()); break;
            case 26: funeralCall(x, m, some, pick(3) == 0 ? n : 1 + pick(4), args); break;
            case 27: due("raid" + args, x.raid(what), m.raid(what)); break;
            case 28: due("raid" + args, x.raid(10 + h), m.raid(10 + h)); break;
            case 29: due("settle" + args, x.settle(v, what), m.settle(v, what)); break;
            case 30: due("settle" + args, x.settle(v + 59, what), m.settle(v + 59, what)); break;
            case 31: due("test" + args, x.test(bag, is), m.test(bag, is)); break;
            case 32: due("untest" + args, x.untest(n / 2), m.untest(n / 2)); break;
            case 33: case 34: due("fakes" + args, x.fakes(k, lane + 1), m.fakes(k, lane + 1)); break;
            case 35: due("fakes" + args, x.fakes(k, 0), m.fakes(k, 0)); break;
            case 36: due("next" + args, x.next(k, what), m.next(k, what)); break;
            case 37: due("chatter" + args, x.chatter(some * 77, v + 20), m.chatter(some * 77, v + 20)); break;
            case 38: due("keep" + args, x.keep(what), m.keep(what)); break;
            case 39: due("back" + args, x.back(what), m.back(what)); break;
            case 40: due("sheet" + args, x.sheet(k, lane, v), m.sheet(k, lane, v)); break;
            case 41: fill(x, m, k); break;
            case 42: due("lay" + args, x.lay(k, v, p), m.lay(k, v, p)); break;
            case 43: due("read" + args, x.read(k, lane, v, n / 3), m.read(k, lane, v, n / 3)); break;
            case 44: due("torn" + args, x.torn(), m.torn); break;
            default: due("count" + args, x.count(n / 2), m.count(n / 2));
        }
    }

    private static void funeralCall(SilenceCoin x, ModelTest m, int some, int n, String args) {
        int what = pick(2) == 0 ? near(0) : 10 + near(5);
        due("funeral n" + n + " w" + what + args, x.funeral(some, n, what), m.funeral(some, n, what));
    }

    /** Lays some whole talks, so that read() has what speak() takes. */
    private static void fill(SilenceCoin x, ModelTest m, int k) {
        for (int i = 0; i < 9; i++) {
            int v = i % 3 == 0 ? pick(12) : pick(Math.max(1, m.ones.size())) + 256 * pick(2);
            due("lay k" + k + " i" + i + " v" + v, x.lay(k, i, v), m.lay(k, i, v));
        }
        int n = pick(4);
        int lane = pick(3);
        due("read k" + k + " lane" + lane + " n" + n, x.read(k, lane, 0, n), m.read(k, lane, 0, n));
    }

    private static void run(int seed) {
        random = new Random(seed);
        trace.setLength(0);
        trace.append("run ").append(seed).append('\n');
        SilenceCoin x = new SilenceCoin();
        ModelTest m = new ModelTest();
        callsOfRun = 0;
        putText(x, m, anyText());
        while (callsOfRun + STEP + LAST <= MOST_CALLS) {
            if (pick(80) == 0) {
                due("end 0", x.end(0), m.end(0));
                putText(x, m, anyText());
            } else {
                call(x, m);
            }
            for (int w = 0; w < 5; w++) {
                due("rule " + w, x.rule(w), m.rule(w));
            }
        }
        for (int c = 0; c < m.coins.size(); c++) {
            for (int w = 0; w < 5; w++) {
                due("coin " + c + " " + w, x.coin(c, w), m.coin(c, w));
            }
        }
        for (int k = 0; k < m.talks.size(); k++) {
            for (int w = 0; w < 4; w++) {
                due("talk " + k + " " + w, x.talk(k, w), m.talk(k, w));
            }
        }
        if (callsOfRun > MOST_CALLS) {
            System.out.println("run " + seed + " has " + callsOfRun + " calls");
            System.exit(1);
        }
    }

    public static void main(String[] args) {
        for (int seed = 1; seed <= RUNS; seed++) {
            run(seed);
        }
        System.out.println(calls + " answers as the model's");
    }
}
