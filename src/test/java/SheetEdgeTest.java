import java.math.BigInteger;

/** Promises 34 to 41, a seed, images, sheets, counts: each sentence that names a boundary case, at its edges. */
public final class SheetEdgeTest {
    private static final int BAD = Check.BAD, STATE = Check.STATE, NONE = Check.NONE;
    private static final int LOW = Check.LOW, HIGH = Check.HIGH;
    private static final int[] SEEDS = {0, 1, -1, 2, 77, -3, 65535, 65536, 1 << 30, -(1 << 30), LOW, LOW + 1, HIGH,
        HIGH - 1};
    private static final Check.Make NOTHING = SilenceCoin::new;

    private static void due(String call, long got, long want) {
        Check.due(call, got, want);
    }

    private static void says(String words) {
        Check.says(words);
    }

    private static String plains(int n) {
        return Check.many("one plain 0 0;", n);
    }

    public static void main(String[] args) {
        chatterDraws();
        chatterBounds();
        keep();
        backAll();
        back();
        sheetBounds();
        sheetNewRow();
        layFaults();
        layLowestBits();
        readWhole();
        readTorn();
        readFar();
        readRefused();
        readFull();
        readBounds();
        torn();
        countNone();
        countAll();
        Check.close();
    }

    // ---- 34: by a seed

    /** Drawn with whole numbers that never wrap: bits 16 to 30 of what is left of the seed below 2 to the 32. */
    private static int drawnSaid(SilenceCoin x, int seed, int n) {
        BigInteger now = BigInteger.valueOf(seed);
        BigInteger times = BigInteger.valueOf(1103515245);
        int people = x.rule(0);
        int said = 0;
        for (int i = 0; i < n; i++) {
            int[] drawn = new int[3];
            for (int j = 0; j < 3; j++) {
                now = now.multiply(times).add(BigInteger.valueOf(12345));
                int bits = 0;
                for (int b = 0; b < 15; b++) {
                    bits |= now.testBit(16 + b) ? 1 << b : 0;
                }
                drawn[j] = bits % (j == 0 ? 12 : people);
            }
            said += drawn[1] == drawn[2] ? 0 : x.may(drawn[0], drawn[1], drawn[2]);
        }
        return said;
    }

    private static void chatterDraws() {
        says("34: Of n TALKS (1 to 60) by a seed how many are SAID (to oneself: none). Terms: bits 16 to 30 of it");
        for (int people = 1; people <= 6; people++) {
            String ones = plains(people - 1) + "one taxman 0 0;";
            String coins = "coin 3 0;coin 3 " + (people - 1) + ";coin 3 0;spend 0 0;spend 1 9;spend 2 4;";
            for (int seed : SEEDS) {
                for (int n : new int[] {1, 2, 59, 60}) {
                    SilenceCoin x = Check.of("law 2;" + ones + coins);
                    due("chatter(" + seed + ", " + n + ") of " + people, x.chatter(seed, n), drawnSaid(x, seed, n));
                }
            }
        }
        for (int seed : SEEDS) {
            due("one alone", Check.of(plains(1)).chatter(seed, 60), 0);
            due("a taxman alone", Check.of("one taxman 0 0;").chatter(seed, 60), 0);
            SilenceCoin x = Check.of(plains(2));
            int one = x.chatter(seed, 1);
            due("1 or 0", one == 0 || one == 1 ? 1 : 0, 1);
            due("no TALKS come", x.rule(2), 0);
            due("the same again", x.chatter(seed, 1), one);
        }
    }

    private static void chatterBounds() {
        says("34: n TALKS (1 to 60). BAD; STATE: there is nobody.");
        for (int seed : SEEDS) {
            Check.bounds("chatter", () -> Check.of(plains(2)), 1, 60, (x, n) -> x.chatter(seed, n));
            for (int n : new int[] {1, 60}) {
                due("nobody", new SilenceCoin().chatter(seed, n), STATE);
            }
            for (int n : Check.outside(1, 60)) {
                due("BAD ahead of STATE", new SilenceCoin().chatter(seed, n), BAD);
            }
        }
    }

    // ---- 35, 36: images

    private static void keep() {
        says("35: IMAGE k (0, 1): whether there was one (1, 0). BAD.");
        Check.bounds("keep", NOTHING, 0, 1, SilenceCoin::keep);
        for (int k = 0; k < 2; k++) {
            SilenceCoin x = new SilenceCoin();
            due("keep of nothing", x.keep(k), 0);
            due("keep again", x.keep(k), 1);
            due("IMAGES", x.count(3), 1);
            due("the other", x.back(1 - k), STATE);
            due("keep the other", x.keep(1 - k), 0);
            due("IMAGES", x.count(3), 2);
            due("back of nothing", x.back(k), 0);
            for (int bad : Check.outside(0, 1)) {
                due("keep " + bad, x.keep(bad), BAD);
            }
            due("IMAGES", x.count(3), 2);
        }
    }

    private static SilenceCoin full() {
        StringBuilder b = new StringBuilder("law 1;fee 9;").append(plains(6));
        for (int c = 0; c < 6; c++) {
            b.append("coin ").append(c % 3 + 1).append(' ').append(c).append(c < 3 ? ";" : " clipped;");
        }
        b.append("spend 0 0;spend 5 11;");
        SilenceCoin x = Check.of(b.toString());
        for (int k = 0; k < 10; k++) {
            x.speak(k + 1, k % 6, (k + 2) % 6);
        }
        return x;
    }

    private static void backAll() {
        says("36: All is as IMAGE k: how many TALKS. 35: IMAGE k is COINS, TALKS, LAW, FEE");
        for (int k = 0; k < 2; k++) {
            SilenceCoin x = full();
            x.keep(k);
            x.law(2);
            x.fee(0);
            for (int c = 0; c < 6; c++) {
                x.undo(c);
                x.give(c, 5 - c);
                x.clip(c);
                x.spend(c, 6);
            }
            x.hear(0, true);
            x.test(1, true);
            x.sheet(0, 0, 3);
            x.feed(0);
            due("back", x.back(k), 10);
            SilenceCoin y = full();
            for (int w = 0; w < 5; w++) {
                due("rule " + w, x.rule(w), y.rule(w));
                for (int c = 0; c < 6; c++) {
                    due("coin " + c + " " + w, x.coin(c, w), y.coin(c, w));
                }
            }
            for (int i = 0; i < 10; i++) {
                for (int w = 0; w < 4; w++) {
                    due("talk " + i + " " + w, x.talk(i, w), y.talk(i, w));
                }
            }
            int[] counts = {2, 1, 1, 1, 8, 3, 8};
            for (int w = 0; w < 7; w++) {
                due("count " + w, x.count(w), counts[w]);
            }
            due("the IMAGE stays", x.back(k), 10);
        }
    }

    private static void back() {
        says("36: BAD; STATE: there is none.");
        Check.Make both = () -> {
            SilenceCoin x = Check.of(plains(2) + "talk 0 0 1;");
            x.keep(0);
            x.keep(1);
            return x;
        };
        Check.bounds("back", NOTHING, 0, 1, SilenceCoin::back);
        Check.bounds("back", both, 0, 1, SilenceCoin::back);
        due("none", new SilenceCoin().back(0), STATE);
        due("none", new SilenceCoin().back(1), STATE);
        SilenceCoin x = both.make();
        x.speak(1, 0, 1);
        x.keep(1);
        x.speak(2, 0, 1);
        due("the one", x.back(0), 1);
        due("the other", x.back(1), 2);
        due("its TALK", x.talk(1, 0), 1);
        due("no third", x.talk(2, 0), BAD);
        x.law(1);
        due("as it was kept", x.back(0), 1);
        due("LAW", x.rule(3), 0);
        SilenceCoin y = Check.of(plains(2));
        y.keep(0);
        for (int k = 0; k < 10; k++) {
            y.speak(k, 0, 1);
        }
        due("no TALKS", y.back(0), 0);
        due("no TALKS", y.rule(2), 0);
        due("then there is room", y.speak(0, 0, 1), 1);
        y.text();
        due("gone with a text", y.back(0), STATE);
    }

    // ---- 37 to 40: sheets

    private static void sheetBounds() {
        says("37: SHEETS 0 to 3, lanes 0 to 2, 0 to 40 CELLS. BAD: also n above 40");
        Check.bounds("sheet", NOTHING, 0, 3, (x, k) -> x.sheet(k, 0, 1));
        Check.bounds("sheet", NOTHING, 0, 3, (x, k) -> x.sheet(k, 2, 40));
        Check.bounds("sheet below 0", NOTHING, 0, 3, (x, k) -> x.sheet(k, 2, -1));
        Check.bounds("sheet", NOTHING, 0, 2, (x, lane) -> x.sheet(0, lane, 0));
        Check.bounds("sheet", NOTHING, 0, 2, (x, lane) -> x.sheet(3, lane, 40));
        Check.bounds("sheet below 0", NOTHING, 0, 2, (x, lane) -> x.sheet(0, lane, -1));
        for (int lane = 0; lane < 3; lane++) {
            for (int n = 0; n <= 40; n++) {
                SilenceCoin x = new SilenceCoin();
                due("sheet of " + n, x.sheet(0, lane, n), 1);
                due("CELLS", x.count(5), n);
            }
            for (int n : new int[] {41, 42, 64, 256, 257, 65536, HIGH - 1, HIGH}) {
                SilenceCoin x = new SilenceCoin();
                due("sheet of " + n, x.sheet(0, lane, n), BAD);
                due("CELLS", x.count(5), NONE);
            }
            says("37: -10 - 4. Terms: 4 SIZE (below 0)");
            for (int n : new int[] {-1, -2, -40, -41, -256, -65536, LOW + 1, LOW, LOW + 40}) {
                SilenceCoin x = new SilenceCoin();
                due("sheet of " + n, x.sheet(0, lane, n), -14);
                due("CELLS", x.count(5), NONE);
                due("still nothing", x.lay(0, 0, 0), -11);
                x.sheet(0, lane, 7);
                due("sheet of " + n + " again", x.sheet(0, 2 - lane, n), -14);
                due("CELLS", x.count(5), 7);
            }
        }
    }

    private static SilenceCoin six() {
        return Check.of(plains(6));
    }

    private static void sheetNewRow() {
        says("37: A SHEET is a new row of CELLS 0: 1.");
        for (int k = 0; k < 4; k++) {
            for (int lane = 0; lane < 3; lane++) {
                SilenceCoin x = six();
                x.keep(0);
                x.sheet(k, lane, 40);
                for (int i = 0; i < 40; i++) {
                    due("lay " + i, x.lay(k, i, 5), 1);
                }
                due("sheet", x.sheet(k, (lane + 1) % 3, 40), 1);
                // a lone 1 makes a talk of HOUR 0 by 0 to 1, if all else is 0
                for (int i = 2; i < 40; i++) {
                    x.lay(k, i, 1);
                    due("CELLS 0", x.read(k, (lane + 1) % 3, i - 2, 1), 1);
                    due("HOUR", x.talk(0, 0), 0);
                    due("who", x.talk(0, 1), 0);
                    x.lay(k, i, 0);
                    x.back(0);
                }
                for (int other = 0; other < 4; other++) {
                    due("the others have nothing", x.lay(other, 40, 0), other == k ? -12 : -11);
                }
            }
        }
        SilenceCoin y = six();
        y.sheet(0, 0, 40);
        y.sheet(0, 0, 0);
        due("a row of none", y.lay(0, 0, 0), -12);
        due("CELLS", y.count(5), 0);
        due("it is not nothing", y.read(0, 0, 0, 1), 0);
        due("INDEX", y.torn(), 2);
    }

    private static void layFaults() {
        says("38: BAD: k; -10 less the FAULT: NULL, INDEX.");
        Check.Make all = () -> {
            SilenceCoin x = new SilenceCoin();
            for (int k = 0; k < 4; k++) {
                x.sheet(k, k % 3, 1);
            }
            return x;
        };
        Check.bounds("lay", all, 0, 3, (x, k) -> x.lay(k, 0, 0));
        Check.bounds("lay on nothing", NOTHING, 0, 3, (x, k) -> x.lay(k, 0, 0));
        Check.bounds("lay beside", all, 0, 3, (x, k) -> x.lay(k, -1, 0));
        for (int i : new int[] {0, -1, 1, 40, LOW, HIGH}) {
            for (int k = 0; k < 4; k++) {
                due("NULL ahead of INDEX", new SilenceCoin().lay(k, i, 0), -11);
            }
        }
        for (int lane = 0; lane < 3; lane++) {
            for (int n : new int[] {0, 1, 2, 39, 40}) {
                SilenceCoin x = new SilenceCoin();
                x.sheet(3, lane, n);
                for (int i = 0; i < n; i++) {
                    due("lay " + i + " of " + n, x.lay(3, i, HIGH), 1);
                }
                for (int i : new int[] {n, n + 1, 40, 41, -1, -2, 256, -256, 65536, LOW, LOW + 1, HIGH, HIGH - 1}) {
                    if (i < 0 || i >= n) {
                        due("lay " + i + " of " + n, x.lay(3, i, 0), -12);
                    }
                }
            }
        }
    }

    /** The HOUR that a CELL holds, seen by a talk; below 0 where speak() refuses it. */
    private static int hourLaid(int lane, int v) {
        SilenceCoin x = six();
        x.sheet(1, lane, 3);
        due("lay " + v, x.lay(1, 0, v), 1);
        x.lay(1, 2, 1);
        int came = x.read(1, lane, 0, 1);
        return came == 1 ? x.talk(0, 0) : came;
    }

    private static void layLowestBits() {
        says("38: CELL i of a SHEET becomes v (its lowest bits): 1.");
        int[] lowest = {8, 16, 32};
        for (int lane = 0; lane < 3; lane++) {
            for (int v : new int[] {0, 1, 11, 12, 127, 128, 129, 139, 255, 256, 257, 267, 268, 511, 512, 523, 32767, 32768,
                32779, 65535, 65536, 65547, 65548, 65792, 65803, 131072, 1 << 24, 1 << 30, -1, -2, -11, -128, -129, -245,
                -256, -32768, -65525, -65536, LOW, LOW + 11, LOW + 12, HIGH, HIGH - 1}) {
                long cut = v & (1L << lowest[lane]) - 1;
                boolean isHour = cut <= 11;
                due(v + " in lane " + lane, hourLaid(lane, v), isHour ? cut : -20);
            }
        }
        says("38: in each CELL");
        SilenceCoin x = six();
        x.sheet(2, 0, 3);
        x.lay(2, 0, 256 + 7);
        x.lay(2, 1, 512 + 5);
        x.lay(2, 2, LOW + 4);
        due("read", x.read(2, 0, 0, 1), 1);
        due("HOUR", x.talk(0, 0), 7);
        due("who", x.talk(0, 1), 5);
        due("to whom", x.talk(0, 2), 4);
    }

    private static void layTalks(SilenceCoin x, int k, int lane, int n, int[]... talks) {
        x.sheet(k, lane, n);
        int i = 0;
        for (int[] talk : talks) {
            for (int cell : talk) {
                x.lay(k, i, cell);
                i++;
            }
        }
    }

    private static int[][] goodTalks(int n) {
        int[][] talks = new int[n][];
        for (int i = 0; i < n; i++) {
            talks[i] = new int[] {(i + 2) % 12, i % 6, (i + 1) % 6};
        }
        return talks;
    }

    private static void readWhole() {
        says("39: n (0 to 13) TALKS are read, three CELLS each from CELL f on, as by speak(): how many came.");
        for (int lane = 0; lane < 3; lane++) {
            for (int n = 0; n <= 10; n++) {
                SilenceCoin x = six();
                layTalks(x, lane, lane, 40, goodTalks(13));
                due("read " + n, x.read(lane, lane, 0, n), n);
                due("torn", x.torn(), 0);
                due("TALKS", x.rule(2), n);
                for (int i = 0; i < n; i++) {
                    due("HOUR " + i, x.talk(i, 0), i + 2);
                    due("who " + i, x.talk(i, 1), i % 6);
                    due("to whom " + i, x.talk(i, 2), (i + 1) % 6);
                }
            }
            for (int f = 0; f <= 36; f += 3) {
                SilenceCoin x = six();
                layTalks(x, 3, lane, 40, goodTalks(13));
                due("read from " + f, x.read(3, lane, f, 1), 1);
                due("HOUR from " + f, x.talk(0, 0), (f / 3 + 2) % 12);
            }
        }
        SilenceCoin y = six();
        layTalks(y, 0, 1, 3, new int[] {11, 5, 4});
        due("a sheet of three CELLS", y.read(0, 1, 0, 1), 1);
        due("HOUR", y.talk(0, 0), 11);
        due("read again: TALKS more", y.read(0, 1, 0, 1), 1);
        due("TALKS", y.rule(2), 2);
        due("behind what was told", y.talk(1, 1), 5);
    }

    private static void readTorn() {
        says("39: What the machine refuses: those that were whole ahead come. Terms: 2 INDEX");
        for (int cells = 0; cells <= 8; cells++) {
            for (int n = 1; n <= 3; n++) {
                SilenceCoin x = six();
                layTalks(x, 0, 0, cells, goodTalks(3));
                int came = Math.min(n, cells / 3);
                due(n + " of " + cells + " CELLS", x.read(0, 0, 0, n), came);
                due("torn", x.torn(), came == n ? 0 : 2);
                due("TALKS", x.rule(2), came);
            }
        }
        SilenceCoin last = six();
        layTalks(last, 0, 0, 40, goodTalks(13));
        due("the last whole one", last.read(0, 0, 36, 2), 1);
        due("torn", last.torn(), 2);
        for (int f : new int[] {38, 39, 40, 41}) {
            due("none is whole from " + f, last.read(0, 0, f, 1), 0);
            due("torn", last.torn(), 2);
        }
        layTalks(last, 1, 0, 40, new int[] {0}, new int[] {3, 0, 1});
        for (int i = 37; i < 40; i++) {
            last.lay(1, i, i == 39 ? 1 : 0);
        }
        due("the last three CELLS", last.read(1, 0, 37, 1), 1);
        due("torn", last.torn(), 0);
        due("from CELL 1", last.read(1, 0, 1, 1), 1);
        due("its HOUR", last.talk(2, 0), 3);
        says("39: Terms: 1 NULL (nothing), 3 CAST (another lane)");
        for (int lane = 0; lane < 3; lane++) {
            for (int as = 0; as < 3; as++) {
                for (int f : new int[] {0, -1, 2, 40, LOW, HIGH}) {
                    SilenceCoin x = six();
                    layTalks(x, 0, lane, 4, goodTalks(1));
                    due("as of lane " + as, x.read(0, as, f, 1), as == lane && f == 0 ? 1 : 0);
                    due("torn", x.torn(), as != lane ? 3 : f == 0 ? 0 : 2);
                    due("nothing", x.read(1, as, f, 13), 0);
                    due("torn", x.torn(), 1);
                    due("TALKS", x.rule(2), as == lane && f == 0 ? 1 : 0);
                }
            }
        }
        says("39: n (0 to 13): where none is to be read, the machine finds nothing");
        for (int lane = 0; lane < 3; lane++) {
            SilenceCoin x = six();
            x.sheet(0, 1, 3);
            x.read(1, 0, 0, 1);
            due("none of another lane", x.read(0, lane, 0, 0), 0);
            due("torn", x.torn(), 0);
            x.read(1, 0, 0, 1);
            due("none of nothing", x.read(1, lane, 0, 0), 0);
            due("torn", x.torn(), 0);
        }
        says("39: Terms: 2 INDEX, 3 CAST (another lane)");
        SilenceCoin none = six();
        none.sheet(0, 1, 0);
        due("a row of none as another lane", none.read(0, 0, 0, 1), 0);
        due("CAST ahead of INDEX", none.torn(), 3);
    }

    private static void readFar() {
        says("39: from CELL f on, where f is the least or the largest int");
        for (int f : new int[] {LOW, LOW + 1, LOW + 2, LOW + 3, LOW + 36, -40, -39, -36, -6, -3, -2, -1, 38, 39, 40, 41, 42,
            256, 65536, HIGH - 39, HIGH - 36, HIGH - 3, HIGH - 2, HIGH - 1, HIGH}) {
            for (int n : new int[] {1, 2, 13}) {
                SilenceCoin x = six();
                layTalks(x, 0, 2, 40, goodTalks(13));
                due("read " + n + " from " + f, x.read(0, 2, f, n), 0);
                due("torn", x.torn(), 2);
                due("TALKS", x.rule(2), 0);
            }
            SilenceCoin y = six();
            layTalks(y, 0, 2, 40, goodTalks(13));
            due("read none from " + f, y.read(0, 2, f, 0), 0);
            due("torn", y.torn(), 0);
        }
    }

    private static void readRefused() {
        says("39: -20 less i: TALK i, whole, is refused by speak() (in whichever way): then none came; the first met.");
        int[][] bads = {{12, 0, 1}, {-1, 0, 1}, {0, 6, 1}, {0, -1, 1}, {0, 0, 6}, {0, 0, -1}, {0, 0, 0}, {11, 5, 5},
            {LOW, 0, 1}, {HIGH, 0, 1}, {0, HIGH, 1}, {0, 0, LOW}, {0, 256, 1}, {0, 0, 65537}};
        for (int[] bad : bads) {
            for (int i = 0; i < 4; i++) {
                SilenceCoin x = six();
                x.speak(7, 0, 1);
                int[][] talks = goodTalks(4);
                talks[i] = bad;
                layTalks(x, 0, 2, 12, talks);
                due("ahead of it", x.read(0, 2, 0, i), i);
                due("with it", x.read(0, 2, 0, i + 1), -20 - i);
                due("far with it", x.read(0, 2, 0, 13), -20 - i);
                due("from it on", x.read(0, 2, 3 * i, 1), -20);
                due("none came", x.rule(2), 1 + i);
                due("the first TALK stays", x.talk(0, 0), 7);
                due("no other", x.talk(1 + i, 0), BAD);
            }
        }
        SilenceCoin two = six();
        int[][] talks = goodTalks(4);
        talks[1] = new int[] {12, 0, 1};
        talks[2] = new int[] {0, 3, 3};
        layTalks(two, 0, 2, 12, talks);
        due("the first of two", two.read(0, 2, 0, 4), -21);
        says("39: the first met, of what speak() and the machine refuse");
        SilenceCoin x = six();
        layTalks(x, 0, 0, 5, new int[] {12, 0, 1}, new int[] {0, 0});
        due("speak()", x.read(0, 0, 0, 2), -20);
        layTalks(x, 0, 0, 5, new int[] {11, 0, 1}, new int[] {12, 0});
        due("the machine: TALK 1 is not whole", x.read(0, 0, 0, 2), 1);
        due("torn", x.torn(), 2);
        layTalks(x, 0, 0, 5, new int[] {12, 0, 1}, new int[] {12, 0});
        due("the machine: another lane", x.read(0, 1, 0, 2), 0);
        due("torn", x.torn(), 3);
        due("among nobody", nobodyReads(), -20);
    }

    private static int nobodyReads() {
        SilenceCoin x = new SilenceCoin();
        x.sheet(0, 0, 3);
        x.lay(0, 2, 1);
        return x.read(0, 0, 0, 1);
    }

    private static void readFull() {
        says("39: refused by speak() (in whichever way): FULL");
        for (int there = 0; there <= 10; there++) {
            SilenceCoin x = six();
            for (int i = 0; i < there; i++) {
                x.speak(0, 0, 1);
            }
            layTalks(x, 0, 1, 39, goodTalks(13));
            int room = 10 - there;
            due("one too many at " + there, x.read(0, 1, 0, room + 1), -20 - room);
            due("13 at " + there, x.read(0, 1, 0, 13), -20 - room);
            due("none came", x.rule(2), there);
            due("as many as there is room for", x.read(0, 1, 0, room), room);
            due("TALKS", x.rule(2), 10);
            due("one more", x.read(0, 1, 0, 1), -20);
            due("none more", x.read(0, 1, 0, 0), 0);
            due("not a whole one more", x.read(0, 1, 37, 1), 0);
            due("torn", x.torn(), 2);
        }
    }

    private static void readBounds() {
        says("39: BAD: k, lane, n");
        Check.Make all = () -> {
            SilenceCoin x = six();
            for (int k = 0; k < 4; k++) {
                layTalks(x, k, k % 3, 39, goodTalks(13));
            }
            return x;
        };
        for (int n : new int[] {0, 1}) {
            Check.bounds("read, k", all, 0, 3, (x, k) -> x.read(k, 0, 0, n));
            Check.bounds("read, k", NOTHING, 0, 3, (x, k) -> x.read(k, 0, 0, n));
            Check.bounds("read, k", NOTHING, 0, 3, (x, k) -> x.read(k, 2, LOW, n));
            Check.bounds("read, lane", all, 0, 2, (x, lane) -> x.read(0, lane, 0, n));
            Check.bounds("read, lane", NOTHING, 0, 2, (x, lane) -> x.read(0, lane, HIGH, n));
        }
        for (int f : new int[] {0, 1, -1, LOW, HIGH}) {
            Check.bounds("read, n", all, 0, 13, (x, n) -> x.read(0, 0, f, n));
            Check.bounds("read, n, another lane", all, 0, 13, (x, n) -> x.read(0, 1, f, n));
            Check.bounds("read, n, nothing", NOTHING, 0, 13, (x, n) -> x.read(3, 1, f, n));
        }
    }

    private static void torn() {
        says("40: The FAULT of the latest read() that came to an end; 0.");
        due("none yet", new SilenceCoin().torn(), 0);
        for (int before = 0; before <= 3; before++) {
            SilenceCoin x = six();
            layTalks(x, 0, 0, 5, new int[] {12, 0, 1}, new int[] {1, 0});
            layTalks(x, 2, 0, 3, new int[] {1, 0, 1});
            int[][] reads = {{2, 0, 0, 1}, {1, 0, 0, 1}, {0, 0, 3, 1}, {0, 1, 0, 1}};
            int[] r = reads[before];
            due("a read", x.read(r[0], r[1], r[2], r[3]), before == 0 ? 1 : 0);
            due("torn", x.torn(), before);
            due("refused by speak()", x.read(0, 0, 0, 1), -20);
            due("as it was", x.torn(), before);
            due("BAD", x.read(4, 0, 0, 1), BAD);
            due("BAD", x.read(0, 3, 0, 1), BAD);
            due("BAD", x.read(0, 0, 0, 14), BAD);
            due("BAD", x.read(0, 0, 0, -1), BAD);
            due("as it was", x.torn(), before);
            x.lay(3, 0, 0);
            x.lay(0, 9, 0);
            x.sheet(0, 0, -1);
            x.speak(12, 0, 1);
            x.law(1);
            x.text();
            due("of read() alone", x.torn(), before);
            x.read(2, 0, 0, 0);
            due("none was to be read", x.torn(), 0);
        }
    }

    // ---- 41: how many

    private static void countNone() {
        says("41: How many. BAD.");
        Check.bounds("count", NOTHING, 0, 6, SilenceCoin::count);
        int[] none = {0, 0, 0, 0, 0, NONE, 0};
        for (int w = 0; w < 7; w++) {
            due("count " + w + " of nothing", new SilenceCoin().count(w), none[w]);
        }
        says("41: 5 CELLS of SHEET 0 (NONE: nothing)");
        SilenceCoin x = new SilenceCoin();
        for (int k = 1; k < 4; k++) {
            x.sheet(k, 0, 40);
            due("of SHEET 0 alone", x.count(5), NONE);
        }
        x.sheet(0, 2, 0);
        due("none is not nothing", x.count(5), 0);
        x.sheet(0, 2, 40);
        due("all", x.count(5), 40);
        x.sheet(0, 2, 1);
        due("a new row", x.count(5), 1);
    }

    private static void countAll() {
        says("41: 0 COINS that are SPENT, 6 WORTHS of COINS that are not SPENT, summed");
        SilenceCoin x = Check.of(plains(6) + Check.many("coin 3 5clipped;", 6));
        due("WORTHS", x.count(6), 18);
        for (int c = 0; c < 6; c++) {
            x.spend(c, 11 * (c % 2));
            due("SPENT", x.count(0), c + 1);
            due("not SPENT", x.count(6), 15 - 3 * c);
        }
        for (int c = 0; c < 6; c++) {
            x.undo(c);
            due("SPENT", x.count(0), 5 - c);
            due("not SPENT", x.count(6), 3 + 3 * c);
        }
        says("41: 1 KNOWN, 2 TESTED, 3 IMAGES, 4 bytes on THE TAPE");
        for (int i = 1; i <= 9; i++) {
            x.hear(0, true);
            x.test(1, true);
            due("KNOWN", x.count(1), Math.min(i, 6));
            due("TESTED", x.count(2), Math.min(i, 8));
        }
        x.forget(0);
        x.untest(0);
        due("KNOWN", x.count(1), 0);
        due("TESTED", x.count(2), 0);
        x.keep(1);
        due("IMAGES", x.count(3), 1);
        x.keep(0);
        due("IMAGES", x.count(3), 2);
        for (int i = 1; i <= 41; i++) {
            x.feed(0);
            due("bytes", x.count(4), Math.min(8 * i, 320));
        }
        x.end(3);
        due("bytes", x.count(4), 3);
        Check.bounds("count", () -> {
            SilenceCoin y = full();
            y.sheet(0, 0, 40);
            return y;
        }, 0, 6, SilenceCoin::count);
    }
}
