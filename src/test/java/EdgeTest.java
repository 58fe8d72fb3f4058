import java.util.ArrayList;
import java.util.List;

/** Promises 6 to 33: each sentence that names a boundary case, at its edges. */
public final class EdgeTest {
    private static final int BAD = Check.BAD, STATE = Check.STATE, FULL = Check.FULL, NONE = Check.NONE;
    private static final int LOW = Check.LOW, HIGH = Check.HIGH;
    private static final String SIX_ONES = "one plain 9 0;one gossip 0 50;one deaf 1 49;one beggar 8 1;one taxman 4 25;"
        + "one plain 0 0;";
    private static final String SIX_COINS = "coin 1 0;coin 2 1;coin 3 2;coin 1 3clipped;coin 2 4clipped;coin 3 5clipped;";
    private static final String TEN_TALKS = Check.many("talk 0 0 1;talk 11 5 4;", 5);
    private static final Check.Make NOTHING = SilenceCoin::new;
    private static final Check.Make ALL = () -> Check.of(SIX_ONES + SIX_COINS + TEN_TALKS);

    private static void due(String call, long got, long want) {
        Check.due(call, got, want);
    }

    private static void says(String words) {
        Check.says(words);
    }

    private static String plains(int n) {
        return Check.many("one plain 0 0;", n);
    }

    public static void main(String[] args) {
        rule();
        one();
        coin();
        lengths();
        talk();
        lawAndFee();
        give();
        clip();
        spend();
        undo();
        speak();
        silentFromItOn();
        silent();
        quiet();
        mayByLaws();
        mayBounds();
        said();
        knowsByHours();
        knowsByKinds();
        knowsBounds();
        learns();
        hushFirst();
        hushNone();
        hushBounds();
        hear();
        forget();
        first();
        funeralHours();
        funeralCheapest();
        funeralFirst();
        funeralNone();
        funeralBounds();
        raidTakes();
        raidBest();
        raidBounds();
        settleRounds();
        settleEdges();
        settleBounds();
        test();
        untest();
        fakes();
        nextTest();
        moreOfOneThanOfTheOther();
        questionsInAnyOrder();
        Check.close();
    }

    // ---- 6 to 9: what there is

    private static void rule() {
        says("6: 0 PEOPLE, 1 COINS, 2 TALKS, 3 LAW, 4 FEE. BAD.");
        Check.bounds("rule", NOTHING, 0, 4, SilenceCoin::rule);
        Check.bounds("rule", ALL, 0, 4, SilenceCoin::rule);
        SilenceCoin x = Check.of("law 2;fee 9;" + SIX_ONES + SIX_COINS + TEN_TALKS);
        int[] most = {6, 6, 10, 2, 9};
        int[] least = {0, 0, 0, 0, 0};
        for (int w = 0; w < 5; w++) {
            due("rule " + w, x.rule(w), most[w]);
            due("rule " + w, Check.of("law 0;fee 0;").rule(w), least[w]);
        }
    }

    private static void one() {
        says("7: Of a ONE: 0 KIND, 1 WISH, 2 PURSE. BAD.");
        for (int n = 0; n <= 6; n++) {
            int people = n;
            for (int w = 0; w < 3; w++) {
                int what = w;
                Check.bounds("one of " + n, () -> Check.of(plains(people)), 0, n - 1, (x, p) -> x.one(p, what));
            }
        }
        Check.bounds("one 0", ALL, 0, 2, (x, w) -> x.one(0, w));
        Check.bounds("one 5", ALL, 0, 2, (x, w) -> x.one(5, w));
        int[][] ones = {{0, 9, 0}, {1, 0, 50}, {2, 1, 49}, {3, 8, 1}, {4, 4, 25}, {0, 0, 0}};
        for (int p = 0; p < 6; p++) {
            for (int w = 0; w < 3; w++) {
                due("one " + p + " " + w, ALL.make().one(p, w), ones[p][w]);
            }
        }
        due("nobody, wrong what", NOTHING.make().one(0, 3), BAD);
    }

    private static void coin() {
        says("8: Of a COIN: 0 WORTH, 1 OWNER, 2 CLIPPED, 3 the HOUR (NONE), 4 LENGTH. BAD.");
        for (int n = 0; n <= 6; n++) {
            int coins = n;
            for (int w = 0; w < 5; w++) {
                int what = w;
                Check.bounds("coin of " + n, () -> Check.of(plains(1) + Check.many("coin 1 0;", coins)), 0, n - 1,
                    (x, c) -> x.coin(c, what));
            }
        }
        Check.bounds("coin 0", ALL, 0, 4, (x, w) -> x.coin(0, w));
        Check.bounds("coin 5", ALL, 0, 4, (x, w) -> x.coin(5, w));
        int[][] coins = {{1, 0, 0, 0, 1}, {2, 1, 0, NONE, 2}, {3, 2, 0, 11, 3}, {1, 3, 1, NONE, 2}, {2, 4, 1, 5, 1},
            {3, 5, 1, NONE, 2}};
        SilenceCoin x = Check.of(SIX_ONES + SIX_COINS + "spend 0 0;spend 2 11;spend 4 5;");
        for (int c = 0; c < 6; c++) {
            for (int w = 0; w < 5; w++) {
                due("coin " + c + " " + w, x.coin(c, w), coins[c][w]);
            }
        }
    }

    private static void lengths() {
        says("Terms 2: LENGTH: WORTH, 1 less if it is CLIPPED (1 at least), 1 more for a beggar.");
        int[] whole = {1, 2, 3};
        int[] clipped = {1, 1, 2};
        for (int p = 0; p < 6; p++) {
            SilenceCoin x = Check.of(SIX_ONES + "coin 1 0;coin 2 0;coin 3 0;coin 1 0clipped;coin 2 0clipped;"
                + "coin 3 0clipped;");
            int more = p == 3 ? 1 : 0;
            for (int c = 0; c < 6; c++) {
                x.give(c, p);
                int length = (c < 3 ? whole[c] : clipped[c - 3]) + more;
                due("LENGTH of " + c + " by " + p, x.coin(c, 4), length);
                due("WORTH stays", x.coin(c, 0), c % 3 + 1);
                due("spend " + c + " by " + p, x.spend(c, 0), length);
                due("LENGTH of a SPENT one", x.coin(c, 4), length);
            }
        }
    }

    private static void talk() {
        says("9: Of a TALK: 0 HOUR, 1 who speaks, 2 to whom, 3 whether it is SAID. BAD.");
        for (int n = 0; n <= 10; n++) {
            int talks = n;
            for (int w = 0; w < 4; w++) {
                int what = w;
                Check.bounds("talk of " + n, () -> Check.of(plains(2) + Check.many("talk 0 0 1;", talks)), 0, n - 1,
                    (x, k) -> x.talk(k, what));
            }
        }
        Check.bounds("talk 0", ALL, 0, 3, (x, w) -> x.talk(0, w));
        Check.bounds("talk 9", ALL, 0, 3, (x, w) -> x.talk(9, w));
        SilenceCoin x = Check.of(plains(6) + "coin 1 5;spend 0 0;talk 0 0 5;talk 11 5 0;talk 0 5 0;");
        int[][] talks = {{0, 0, 5, 0}, {11, 5, 0, 1}, {0, 5, 0, 1}};
        for (int k = 0; k < 3; k++) {
            for (int w = 0; w < 4; w++) {
                due("talk " + k + " " + w, x.talk(k, w), talks[k][w]);
            }
        }
    }

    // ---- 10 to 16: what is changed

    private static void lawAndFee() {
        says("10: LAW becomes v: what it was. BAD.");
        Check.bounds("law", NOTHING, 0, 2, SilenceCoin::law);
        Check.bounds("law", ALL, 0, 2, SilenceCoin::law);
        SilenceCoin x = new SilenceCoin();
        int before = 0;
        for (int v : new int[] {0, 2, 2, 1, 0, 1, 2, 0}) {
            due("law " + v, x.law(v), before);
            due("rule 3", x.rule(3), v);
            for (int bad : Check.outside(0, 2)) {
                due("law " + bad, x.law(bad), BAD);
            }
            due("rule 3 stays", x.rule(3), v);
            before = v;
        }
        says("11: FEE becomes v: what it was. BAD.");
        Check.bounds("fee", NOTHING, 0, 9, SilenceCoin::fee);
        Check.bounds("fee", ALL, 0, 9, SilenceCoin::fee);
        before = 1;
        for (int v : new int[] {1, 0, 9, 9, 5, 0}) {
            due("fee " + v, x.fee(v), before);
            due("rule 4", x.rule(4), v);
            for (int bad : Check.outside(0, 9)) {
                due("fee " + bad, x.fee(bad), BAD);
            }
            due("rule 4 stays", x.rule(4), v);
            before = v;
        }
    }

    private static void give() {
        says("12: A COIN becomes a ONE's: whose it was. BAD");
        Check.bounds("give", ALL, 0, 5, (x, c) -> x.give(c, 0));
        Check.bounds("give", ALL, 0, 5, (x, p) -> x.give(0, p));
        Check.Make two = () -> Check.of(plains(2) + "coin 1 0;");
        Check.bounds("give", two, 0, 0, (x, c) -> x.give(c, 1));
        Check.bounds("give", two, 0, 1, (x, p) -> x.give(0, p));
        due("give where there is no COIN", Check.of(plains(6)).give(0, 0), BAD);
        SilenceCoin x = ALL.make();
        for (int c = 0; c < 6; c++) {
            due("give to the last", x.give(c, 5), c);
            due("whose it is", x.coin(c, 1), 5);
            due("give to whose it is", x.give(c, 5), 5);
            due("give to the first", x.give(c, 0), 5);
            due("whose it is", x.coin(c, 1), 0);
        }
        says("12: STATE: it is SPENT.");
        for (int h : new int[] {0, 11}) {
            SilenceCoin y = ALL.make();
            for (int c = 0; c < 6; c++) {
                y.spend(c, h);
                due("give a SPENT one", y.give(c, 5 - c), STATE);
                due("give it to its OWNER", y.give(c, c), STATE);
                due("give it to nobody", y.give(c, 6), BAD);
                due("whose it is", y.coin(c, 1), c);
                y.undo(c);
                due("give it when undone", y.give(c, 5 - c), c);
            }
        }
    }

    private static void clip() {
        says("13: A COIN is CLIPPED: 1; it was already: 0. BAD.");
        Check.bounds("clip", ALL, 0, 5, SilenceCoin::clip);
        Check.bounds("clip", () -> Check.of(plains(1) + "coin 1 0;"), 0, 0, SilenceCoin::clip);
        due("clip where there is no COIN", new SilenceCoin().clip(0), BAD);
        SilenceCoin x = ALL.make();
        x.spend(2, 11);
        for (int c = 0; c < 6; c++) {
            due("clip " + c, x.clip(c), c < 3 ? 1 : 0);
            due("clip " + c + " again", x.clip(c), 0);
            due("is CLIPPED", x.coin(c, 2), 1);
            due("WORTH stays", x.coin(c, 0), c % 3 + 1);
        }
        due("a SPENT one stays SPENT", x.coin(2, 3), 11);
    }

    private static void spend() {
        says("14: A COIN is SPENT in an HOUR: its LENGTH. BAD");
        Check.bounds("spend", ALL, 0, 5, (x, c) -> x.spend(c, 0));
        Check.bounds("spend", ALL, 0, 11, (x, h) -> x.spend(0, h));
        Check.bounds("spend", ALL, 0, 11, (x, h) -> x.spend(5, h));
        due("spend where there is no COIN", new SilenceCoin().spend(0, 0), BAD);
        due("spend a COIN too many", Check.of(plains(1) + "coin 1 0;").spend(1, 0), BAD);
        for (int h = 0; h < 12; h++) {
            SilenceCoin x = Check.of("one beggar 0 0;coin 3 0;");
            due("spend in " + h, x.spend(0, h), 4);
            due("the HOUR", x.coin(0, 3), h);
            due("SPENT", x.count(0), 1);
        }
        says("14: STATE: it is already.");
        for (int h = 0; h < 12; h++) {
            SilenceCoin x = Check.of("one beggar 0 0;coin 3 0;");
            x.spend(0, h);
            due("spend it again", x.spend(0, h), STATE);
            due("spend it in another HOUR", x.spend(0, 11 - h), STATE);
            due("the HOUR stays", x.coin(0, 3), h);
            due("BAD ahead of STATE", x.spend(0, 12), BAD);
            due("BAD ahead of STATE", x.spend(0, -1), BAD);
        }
    }

    private static void undo() {
        says("15: A COIN is not SPENT any more: in which HOUR it was (NONE). BAD.");
        Check.bounds("undo", ALL, 0, 5, SilenceCoin::undo);
        Check.bounds("undo", () -> Check.of(plains(1) + "coin 1 0;spend 0 0;"), 0, 0, SilenceCoin::undo);
        due("undo where there is no COIN", new SilenceCoin().undo(0), BAD);
        for (int h = 0; h < 12; h++) {
            SilenceCoin x = ALL.make();
            due("not SPENT", x.undo(5), NONE);
            x.spend(5, h);
            due("undo", x.undo(5), h);
            due("undo again", x.undo(5), NONE);
            due("not SPENT", x.coin(5, 3), NONE);
            due("not SILENT", x.quiet(5), 0);
            due("can be SPENT", x.spend(5, 11 - h), 2);
        }
    }

    private static void speak() {
        says("16: A TALK more: how many there are. BAD (also alike)");
        Check.Make six = () -> Check.of(plains(6));
        Check.bounds("speak", six, 0, 11, (x, h) -> x.speak(h, 0, 5));
        Check.bounds("speak", six, 0, 4, (x, p) -> x.speak(0, p, 5));
        Check.bounds("speak", six, 1, 5, (x, p) -> x.speak(0, p, 0));
        Check.bounds("speak", six, 0, 4, (x, q) -> x.speak(0, 5, q));
        Check.bounds("speak", six, 1, 5, (x, q) -> x.speak(0, 0, q));
        for (int p = 0; p < 6; p++) {
            due("alike", six.make().speak(0, p, p), BAD);
        }
        for (int v : new int[] {-1, 6, LOW, HIGH}) {
            due("alike, nobody", six.make().speak(0, v, v), BAD);
        }
        due("to nobody else", Check.of(plains(1)).speak(0, 0, 1), BAD);
        due("to himself", Check.of(plains(1)).speak(0, 0, 0), BAD);
        due("among nobody", new SilenceCoin().speak(0, 0, 1), BAD);
        says("16: FULL. TALKS (10)");
        SilenceCoin x = six.make();
        for (int k = 0; k < 10; k++) {
            due("speak", x.speak(k + 2, k % 6, (k + 1) % 6), k + 1);
        }
        due("the 11th", x.speak(0, 0, 1), FULL);
        due("BAD ahead of FULL", x.speak(12, 0, 1), BAD);
        due("BAD ahead of FULL", x.speak(-1, 0, 1), BAD);
        due("BAD ahead of FULL", x.speak(0, 6, 1), BAD);
        due("BAD ahead of FULL", x.speak(0, 0, 6), BAD);
        due("BAD ahead of FULL", x.speak(0, 1, 1), BAD);
        due("there are", x.rule(2), 10);
        for (int k = 0; k < 10; k++) {
            due("HOUR", x.talk(k, 0), k + 2);
            due("who", x.talk(k, 1), k % 6);
            due("to whom", x.talk(k, 2), (k + 1) % 6);
        }
    }

    // ---- 17 to 20: silence, talks

    private static void silentFromItOn() {
        says("Terms 2: he is SILENT from it on for LENGTH HOURS (as far as there are HOURS).");
        for (int length = 1; length <= 4; length++) {
            for (int h = 0; h < 12; h++) {
                SilenceCoin x = length < 4 ? Check.of("one plain 0 0;one plain 0 0;coin " + length + " 1;")
                    : Check.of("one plain 0 0;one beggar 0 0;coin 3 1;");
                due("its LENGTH, also where the HOURS end", x.spend(0, h), length);
                int hours = 0;
                for (int i = 0; i < 12; i++) {
                    boolean is = i >= h && i < h + length;
                    hours |= is ? 1 << i : 0;
                    due("silent " + i + " by one spent in " + h, x.silent(i), is ? 2 : 0);
                    due("may " + i, x.may(i, 0, 1), is ? 0 : 1);
                }
                due("quiet", x.quiet(1), hours);
                due("quiet of another", x.quiet(0), 0);
            }
        }
        SilenceCoin y = Check.of(plains(1) + "coin 3 0;coin 3 0;spend 0 2;spend 1 4;");
        due("two that overlap", y.quiet(0), 0b1111100);
        y.undo(0);
        due("the other alone", y.quiet(0), 0b1110000);
        y.clip(1);
        due("clipped when SPENT", y.quiet(0), 0b110000);
    }

    private static void silent() {
        says("17: ONES who are SILENT in an HOUR (bits). BAD.");
        Check.bounds("silent", NOTHING, 0, 11, SilenceCoin::silent);
        Check.bounds("silent", ALL, 0, 11, SilenceCoin::silent);
        SilenceCoin x = Check.of(plains(6) + "coin 1 0;coin 1 1;coin 1 2;coin 1 3;coin 1 4;coin 1 5;");
        int bits = 0;
        for (int c = 0; c < 6; c++) {
            x.spend(c, 11);
            bits |= 1 << c;
            due("silent", x.silent(11), bits);
            due("the HOUR before", x.silent(10), 0);
        }
        due("all", bits, 63);
        SilenceCoin y = Check.of("one taxman 0 0;coin 1 0;spend 0 0;");
        due("a taxman, too", y.silent(0), 1);
    }

    private static void quiet() {
        says("18: HOURS in which a ONE is SILENT (bits). BAD.");
        Check.bounds("quiet", ALL, 0, 5, SilenceCoin::quiet);
        Check.bounds("quiet", () -> Check.of(plains(1)), 0, 0, SilenceCoin::quiet);
        due("nobody", new SilenceCoin().quiet(0), BAD);
        SilenceCoin x = Check.of(plains(5) + "one beggar 0 0;" + Check.many("coin 3 5;", 3) + "spend 0 0;spend 1 4;");
        due("quiet", x.quiet(5), 0xff);
        x.spend(2, 8);
        due("all HOURS", x.quiet(5), 0xfff);
        due("none", x.quiet(0), 0);
        x.undo(0);
        due("the last eight", x.quiet(5), 0xff0);
    }

    private static void mayByLaws() {
        says("Terms 2: A TALK is SAID, if who speaks is a taxman; else LAW 0 .. 1 .. 2");
        // by LAW: neither is SILENT, who speaks, to whom, both
        int[][] dues = {{1, 1, 0, 0}, {1, 1, 0, 1}, {1, 0, 0, 0}};
        String[] kinds = {"plain", "gossip", "deaf", "beggar", "taxman"};
        for (int p = 0; p < 5; p++) {
            for (int q = 0; q < 5; q++) {
                SilenceCoin x = Check.of("one " + kinds[p] + " 0 0;one " + kinds[q] + " 0 0;coin 1 0;coin 1 1;"
                    + "talk 11 0 1;");
                for (int law = 0; law < 3; law++) {
                    x.law(law);
                    for (int who = 0; who < 4; who++) {
                        x.undo(0);
                        x.undo(1);
                        if ((who & 1) != 0) {
                            x.spend(0, 11);
                        }
                        if ((who & 2) != 0) {
                            x.spend(1, 11);
                        }
                        int want = p == 4 ? 1 : dues[law][who];
                        String call = kinds[p] + " to " + kinds[q] + ", law " + law + ", silent " + who;
                        due("may: " + call, x.may(11, 0, 1), want);
                        due("talk: " + call, x.talk(0, 3), want);
                        due("said: " + call, x.said(), want);
                    }
                }
            }
        }
    }

    private static void mayBounds() {
        says("19: Whether it would be SAID (1, 0). BAD (also alike).");
        Check.bounds("may", ALL, 0, 11, (x, h) -> x.may(h, 0, 5));
        Check.bounds("may", ALL, 0, 4, (x, p) -> x.may(0, p, 5));
        Check.bounds("may", ALL, 1, 5, (x, p) -> x.may(0, p, 0));
        Check.bounds("may", ALL, 0, 4, (x, q) -> x.may(11, 5, q));
        Check.bounds("may", ALL, 1, 5, (x, q) -> x.may(11, 0, q));
        for (int p = 0; p < 6; p++) {
            due("alike", ALL.make().may(0, p, p), BAD);
        }
        due("to nobody else", Check.of(plains(1)).may(0, 0, 1), BAD);
        due("among nobody", new SilenceCoin().may(0, 0, 1), BAD);
        due("a taxman to himself", Check.of("one taxman 0 0;").may(0, 0, 0), BAD);
    }

    private static void said() {
        says("20: TALKS that are SAID (bits).");
        due("no TALKS", new SilenceCoin().said(), 0);
        SilenceCoin x = Check.of(plains(2) + "coin 1 1;");
        int bits = 0;
        for (int k = 0; k < 10; k++) {
            x.speak(k, 0, 1);
            bits |= 1 << k;
            due("said", x.said(), bits);
        }
        due("all", bits, 1023);
        for (int k = 0; k < 10; k++) {
            x.spend(0, k);
            due("said but " + k, x.said(), 1023 - (1 << k));
            x.undo(0);
        }
        SilenceCoin y = Check.of(plains(2) + "law 2;coin 1 0;spend 0 3;" + Check.many("talk 3 0 1;", 10));
        due("none is", y.said(), 0);
    }

    // ---- 21 to 26: rumours

    private static void knowsByHours() {
        says("21: Who knows a RUMOUR that begins with p behind HOUR h (bits).");
        SilenceCoin x = Check.of(plains(3) + "talk 0 0 1;talk 11 1 2;");
        due("behind 0", x.knows(0, 0), 3);
        for (int h = 0; h < 11; h++) {
            due("behind " + h, x.knows(0, h), 3);
            due("of the last, behind " + h, x.knows(1, h), 2);
        }
        due("behind 11", x.knows(0, 11), 7);
        due("begun with the last", x.knows(2, 11), 4);
        due("alone", Check.of(plains(1)).knows(0, 0), 1);
        says("Terms 2: HOUR by HOUR, TALK by TALK, by order");
        due("a later HOUR told ahead", Check.of(plains(3) + "talk 5 1 2;talk 4 0 1;").knows(0, 11), 7);
        due("an earlier HOUR", Check.of(plains(3) + "talk 4 1 2;talk 5 0 1;").knows(0, 11), 3);
        due("one HOUR, by order", Check.of(plains(3) + "talk 4 0 1;talk 4 1 2;").knows(0, 4), 7);
        due("one HOUR, against it", Check.of(plains(3) + "talk 4 1 2;talk 4 0 1;").knows(0, 11), 3);
        due("the HOUR ahead of it", Check.of(plains(3) + "talk 4 0 1;talk 4 1 2;").knows(0, 3), 1);
        StringBuilder chain = new StringBuilder(plains(6));
        for (int p = 0; p < 5; p++) {
            chain.append("talk 11 ").append(p).append(' ').append(p + 1).append(';');
        }
        due("all six in one HOUR", Check.of(chain.toString()).knows(0, 11), 63);
        due("not back", Check.of(chain.toString()).knows(5, 11), 32);
        String tenth = Check.many("talk 11 1 0;", 9) + "talk 11 0 1;";
        due("by the 10th TALK", Check.of(plains(2) + tenth).knows(0, 11), 3);
    }

    private static void knowsByKinds() {
        says("Terms 2: what is SAID tells it; where one of both is a gossip, it is told the other way round, too; a deaf one never");
        String[] kinds = {"plain", "gossip", "deaf", "beggar", "taxman"};
        for (int p = 0; p < 5; p++) {
            for (int q = 0; q < 5; q++) {
                SilenceCoin x = Check.of("one " + kinds[p] + " 0 0;one " + kinds[q] + " 0 0;coin 1 1;talk 7 0 1;");
                String call = kinds[p] + " to " + kinds[q];
                boolean isGossip = p == 1 || q == 1;
                due(call + ", forth", x.knows(0, 7), q == 2 ? 1 : 3);
                due(call + ", round", x.knows(1, 7), isGossip && p != 2 ? 3 : 2);
                due(call + ", the HOUR before", x.knows(0, 6), 1);
                x.spend(0, 7);
                boolean isSaid = p == 4;
                due(call + ", to a SILENT one, forth", x.knows(0, 11), isSaid && q != 2 ? 3 : 1);
                due(call + ", to a SILENT one, round", x.knows(1, 11), isSaid && isGossip ? 3 : 2);
            }
        }
        SilenceCoin y = Check.of("one plain 0 0;one deaf 0 0;one plain 0 0;talk 1 0 1;talk 2 1 2;");
        due("a deaf one does not tell on", y.knows(0, 11), 1);
        due("he may begin it", y.knows(1, 11), 6);
    }

    private static void knowsBounds() {
        says("21: BAD.");
        Check.bounds("knows", ALL, 0, 5, (x, p) -> x.knows(p, 0));
        Check.bounds("knows", ALL, 0, 11, (x, h) -> x.knows(0, h));
        Check.bounds("knows", ALL, 0, 11, (x, h) -> x.knows(5, h));
        Check.bounds("knows", () -> Check.of(plains(1)), 0, 0, (x, p) -> x.knows(p, 11));
        due("nobody", new SilenceCoin().knows(0, 0), BAD);
    }

    private static void learns() {
        says("22: The HOUR in which q comes to know a RUMOUR that begins with p (p: 0).");
        for (int h = 0; h < 12; h++) {
            SilenceCoin x = Check.of(plains(2) + "talk " + h + " 0 1;");
            due("in " + h, x.learns(0, 1), h);
            due("himself", x.learns(0, 0), 0);
            due("himself", x.learns(1, 1), 0);
        }
        due("the first of several", Check.of(plains(2) + "talk 9 0 1;talk 3 0 1;talk 5 0 1;").learns(0, 1), 3);
        due("a deaf one himself", Check.of("one deaf 0 0;").learns(0, 0), 0);
        says("22: NONE: he does not.");
        due("no TALKS", Check.of(plains(2)).learns(0, 1), NONE);
        due("not back", Check.of(plains(2) + "talk 0 0 1;").learns(1, 0), NONE);
        due("a deaf one", Check.of("one plain 0 0;one deaf 0 0;talk 0 0 1;").learns(0, 1), NONE);
        due("a SILENT one", Check.of(plains(2) + "coin 1 1;spend 0 11;talk 11 0 1;").learns(0, 1), NONE);
        says("22: BAD");
        Check.bounds("learns", ALL, 0, 5, (x, p) -> x.learns(p, 0));
        Check.bounds("learns", ALL, 0, 5, (x, q) -> x.learns(0, q));
        for (int v : new int[] {-1, 6, LOW, HIGH}) {
            due("alike, nobody", ALL.make().learns(v, v), BAD);
        }
        due("nobody", new SilenceCoin().learns(0, 0), BAD);
    }

    private static void hushFirst() {
        says("23: which COIN its OWNER is to spend (what 0), in which HOUR (1), the first by these.");
        SilenceCoin first = Check.of(plains(2) + Check.many("coin 1 1;", 6) + "talk 0 0 1;");
        due("the first COIN", first.hush(0, 1, 0), 0);
        due("the first HOUR", first.hush(0, 1, 1), 0);
        SilenceCoin last = Check.of(plains(2) + Check.many("coin 3 0;", 5) + "coin 1 1;talk 11 0 1;");
        due("the last COIN", last.hush(0, 1, 0), 5);
        due("the last HOUR", last.hush(0, 1, 1), 11);
        for (int length = 1; length <= 3; length++) {
            for (int h = 0; h < 12; h++) {
                SilenceCoin x = Check.of(plains(2) + "coin " + length + " 1;talk " + h + " 0 1;");
                due("COIN of " + length + ", TALK in " + h, x.hush(0, 1, 0), 0);
                due("HOUR of " + length + ", TALK in " + h, x.hush(0, 1, 1), Math.max(0, h - length + 1));
                due("SPENT are", x.count(0), 0);
            }
        }
        SilenceCoin between = Check.of(plains(3) + "coin 1 1;coin 1 2;talk 3 0 1;talk 4 1 2;");
        due("by one on the way", between.hush(0, 2, 0), 0);
        due("his HOUR", between.hush(0, 2, 1), 3);
        between.spend(0, 0);
        due("a SPENT one is not", between.hush(0, 2, 0), 1);
        due("his HOUR", between.hush(0, 2, 1), 4);
        SilenceCoin more = Check.of(plains(2) + "coin 1 1;coin 1 1;spend 0 9;talk 2 0 1;talk 9 0 1;talk 9 0 1;");
        due("with what is SPENT already", more.hush(0, 1, 0), 1);
        due("his HOUR", more.hush(0, 1, 1), 2);
        SilenceCoin law2 = Check.of("law 2;" + plains(2) + "coin 1 0;talk 3 0 1;");
        due("LAW 2: by who speaks", law2.hush(0, 1, 0), 0);
        due("LAW 2: his HOUR", law2.hush(0, 1, 1), 3);
        // with LAW 1 both are SILENT, so a coin can let a talk be said
        SilenceCoin law1 = Check.of("law 1;" + plains(2) + "coin 1 0;coin 1 1;talk 3 0 1;");
        due("LAW 1: to whom", law1.hush(0, 1, 0), 1);
        due("LAW 1: his HOUR", law1.hush(0, 1, 1), 3);
    }

    private static void hushNone() {
        says("23: STATE: he does not");
        for (int what = 0; what < 2; what++) {
            due("no TALKS", Check.of(plains(2) + "coin 1 1;").hush(0, 1, what), STATE);
            due("no COINS either", Check.of(plains(2)).hush(0, 1, what), STATE);
            due("deaf", Check.of("one plain 0 0;one deaf 0 0;coin 1 1;talk 0 0 1;").hush(0, 1, what), STATE);
            due("SILENT", Check.of(plains(2) + "coin 1 1;coin 1 1;spend 0 0;talk 0 0 1;").hush(0, 1, what), STATE);
        }
        says("23: NONE: by none");
        for (int what = 0; what < 2; what++) {
            due("no COINS", Check.of(plains(2) + "talk 0 0 1;").hush(0, 1, what), NONE);
            due("all SPENT", Check.of(plains(2) + "coin 1 1;spend 0 11;talk 0 0 1;").hush(0, 1, what), NONE);
            due("of another", Check.of(plains(3) + "coin 1 0;coin 3 2;talk 0 0 1;").hush(0, 1, what), NONE);
            due("too short", Check.of(plains(2) + "coin 3 1;talk 0 0 1;talk 3 0 1;").hush(0, 1, what), NONE);
            due("just long enough", Check.of(plains(2) + "coin 3 1;talk 0 0 1;talk 2 0 1;").hush(0, 1, what), 0);
            due("by a taxman", Check.of("one taxman 0 0;one plain 0 0;coin 3 1;talk 0 0 1;").hush(0, 1, what), NONE);
        }
    }

    private static void hushBounds() {
        says("23: BAD (also alike)");
        for (int what = 0; what < 2; what++) {
            int w = what;
            Check.bounds("hush", ALL, 0, 4, (x, p) -> x.hush(p, 5, w));
            Check.bounds("hush", ALL, 1, 5, (x, p) -> x.hush(p, 0, w));
            Check.bounds("hush", ALL, 0, 4, (x, q) -> x.hush(5, q, w));
            Check.bounds("hush", ALL, 1, 5, (x, q) -> x.hush(0, q, w));
            for (int p = 0; p < 6; p++) {
                due("alike", ALL.make().hush(p, p, w), BAD);
            }
        }
        Check.bounds("hush, he comes to know it", ALL, 0, 1, (x, w) -> x.hush(0, 1, w));
        Check.bounds("hush, he does not", ALL, 0, 1, (x, w) -> x.hush(3, 2, w));
        due("nobody", new SilenceCoin().hush(0, 1, 0), BAD);
    }

    private static void hear() {
        says("24: KNOWN: how many are. BAD; FULL: more than 6.");
        Check.bounds("hear", ALL, 0, 5, (x, p) -> x.hear(p, true));
        Check.bounds("hear", ALL, 0, 5, (x, p) -> x.hear(p, false));
        due("nobody", new SilenceCoin().hear(0, false), BAD);
        SilenceCoin x = ALL.make();
        for (int i = 1; i <= 6; i++) {
            due("hear " + i, x.hear(6 - i, i % 2 == 0), i);
            due("KNOWN", x.count(1), i);
        }
        due("the 7th", x.hear(0, true), FULL);
        due("the 7th", x.hear(5, false), FULL);
        due("BAD ahead of FULL", x.hear(6, true), BAD);
        due("BAD ahead of FULL", x.hear(-1, true), BAD);
        due("KNOWN", x.count(1), 6);
        due("forget one", x.forget(5), 6);
        due("the 6th again", x.hear(0, true), 6);
        says("24: whether a ONE knows it behind all HOURS");
        SilenceCoin y = Check.of(plains(2) + "talk 11 0 1;");
        y.hear(1, true);
        due("told in the last HOUR", y.first(), 3);
        y.hear(0, false);
        due("then with him", y.first(), 2);
    }

    private static void forget() {
        says("25: KNOWN are the first n alone: how many there were. BAD.");
        due("none", new SilenceCoin().forget(0), 0);
        for (int v : Check.outside(0, 0)) {
            due("forget " + v + " of none", new SilenceCoin().forget(v), BAD);
        }
        for (int n = 0; n <= 6; n++) {
            int known = n;
            Check.Make make = () -> {
                SilenceCoin x = Check.of(plains(6));
                for (int i = 0; i < known; i++) {
                    x.hear(i, false);
                }
                return x;
            };
            Check.bounds("forget of " + n, make, 0, n, SilenceCoin::forget);
            for (int left = 0; left <= n; left++) {
                SilenceCoin x = make.make();
                due("forget", x.forget(left), n);
                due("KNOWN", x.count(1), left);
                due("the first " + left + " alone", x.first(), 63 - ((1 << left) - 1));
                due("forget again", x.forget(left), left);
                due("more than there are", x.forget(left + 1), BAD);
            }
        }
    }

    private static void first() {
        says("26: ONES with whom a RUMOUR can have begun, by all that is KNOWN (bits).");
        due("nobody", new SilenceCoin().first(), 0);
        for (int n = 1; n <= 6; n++) {
            due("nothing KNOWN among " + n, Check.of(plains(n)).first(), (1 << n) - 1);
        }
        SilenceCoin x = Check.of(plains(6));
        x.hear(5, true);
        due("he alone", x.first(), 32);
        x.hear(5, true);
        due("told twice", x.first(), 32);
        x.hear(5, false);
        due("against it", x.first(), 0);
        SilenceCoin y = Check.of(plains(6) + "talk 0 0 1;talk 0 1 2;talk 5 2 3;talk 11 3 4;");
        for (int i = 0; i < 6; i++) {
            y.hear(i, i >= 2 && i < 5);
            int[] dues = {62, 60, 4, 4, 4, 4};
            due("KNOWN " + (i + 1), y.first(), dues[i]);
        }
    }

    // ---- 27 to 29: funerals, raids, prices

    private static void funeralHours() {
        says("27: A FUNERAL of n HOURS (1 to 12): LENGTHS of what each of them gets are n together at least.");
        for (int n = 1; n <= 12; n++) {
            SilenceCoin x = Check.of("fee 9;" + plains(1) + Check.many("coin 3 0;", 4));
            due("of threes, " + n, x.funeral(1, n, 0), (n + 2) / 3 * 3);
            SilenceCoin y = Check.of("fee 0;" + plains(1) + Check.many("coin 2 0;", 6));
            due("of twos, " + n, y.funeral(1, n, 0), (n + 1) / 2 * 2);
            SilenceCoin z = Check.of("one beggar 0 0;" + Check.many("coin 1 0;", 6));
            due("of ones, by a beggar, " + n, z.funeral(1, n, 0), (n + 1) / 2);
            SilenceCoin c = Check.of(plains(1) + Check.many("coin 3 0clipped;", 5));
            due("clipped, " + n, c.funeral(1, n, 0), n > 10 ? NONE : (n + 1) / 2 * 3);
        }
        SilenceCoin x = Check.of(plains(1) + Check.many("coin 3 0;", 4));
        x.clip(2);
        due("11 HOURS of 11", x.funeral(1, 11, 0), 12);
        due("12 HOURS of 11", x.funeral(1, 12, 0), NONE);
        says("27: for some (bits)");
        due("for nobody", Check.of(plains(1)).funeral(0, 12, 0), 0);
        due("for nobody of nobody", new SilenceCoin().funeral(0, 1, 0), 0);
        due("for nobody of nobody", new SilenceCoin().funeral(0, 12, 0), 0);
        SilenceCoin all = Check.of("fee 2;" + plains(6) + Check.many("coin 1 5;", 6));
        due("for all six", all.funeral(63, 1, 0), 6 + 5 * 2);
        for (int c = 0; c < 6; c++) {
            due("to whom " + c, all.funeral(63, 1, 10 + c), c);
        }
        due("for all six, 2 HOURS", all.funeral(63, 2, 0), NONE);
        due("for the last", all.funeral(32, 6, 0), 6);
        due("for the first", all.funeral(1, 6, 0), 18);
    }

    private static void funeralCheapest() {
        says("Terms 2: It costs their WORTHS, and FEE for each that is given to another one than its OWNER. The cheapest");
        int[] costs = {1, 2, 3, 3, 3, 3, 3, 3, 3, 3};
        int[] firsts = {0, 0, NONE, NONE, NONE, NONE, NONE, NONE, NONE, NONE};
        for (int fee = 0; fee <= 9; fee++) {
            SilenceCoin x = Check.of(plains(2) + "coin 1 1;coin 3 0;");
            x.fee(fee);
            due("FEE " + fee, x.funeral(1, 1, 0), costs[fee]);
            due("the other's, FEE " + fee, x.funeral(1, 1, 10), firsts[fee]);
            due("his own, FEE " + fee, x.funeral(1, 1, 11), firsts[fee] == NONE ? 0 : NONE);
            due("both, FEE " + fee, x.funeral(1, 4, 0), 4 + fee);
            due("what is given stays his", x.coin(0, 1), 1);
        }
        SilenceCoin y = Check.of("fee 9;" + plains(2) + Check.many("coin 3 1;", 6));
        due("the dearest", y.funeral(1, 12, 0), 4 * 12);
        due("a FEE each", y.funeral(3, 9, 0), 18 + 3 * 9);
        SilenceCoin z = Check.of("fee 1;one plain 0 0;one beggar 0 0;coin 1 0;coin 2 0;");
        due("a beggar's LENGTH is by whom it is given to", z.funeral(2, 2, 0), 2);
        due("a beggar's LENGTH is by whom it is given to", z.funeral(2, 5, 0), 5);
        due("one more is not", z.funeral(2, 6, 0), NONE);
    }

    private static void funeralFirst() {
        says("Terms 2: of several the first by COINS (not given ahead of given, then by ONES)");
        SilenceCoin x = Check.of("fee 0;" + plains(2) + Check.many("coin 1 0;", 6));
        for (int n = 1; n <= 6; n++) {
            for (int c = 0; c < 6; c++) {
                due("not given ahead, " + n, x.funeral(2, n, 10 + c), c < 6 - n ? NONE : 1);
            }
        }
        for (int n = 1; n <= 3; n++) {
            int none = 6 - 2 * n;
            for (int c = 0; c < 6; c++) {
                due("then by ONES, " + n, x.funeral(3, n, 10 + c), c < none ? NONE : c < none + n ? 0 : 1);
            }
        }
        SilenceCoin y = Check.of("fee 0;" + plains(1) + "coin 1 0;coin 1 0;coin 2 0;");
        due("two ones or a two", y.funeral(1, 2, 0), 2);
        due("the two", y.funeral(1, 2, 12), 0);
        due("not the ones", y.funeral(1, 2, 10), NONE);
        due("not the ones", y.funeral(1, 2, 11), NONE);
    }

    private static void funeralNone() {
        says("27: NONE: it can not be; 10 and c: to nobody.");
        SilenceCoin x = Check.of(plains(2) + "coin 3 0;coin 3 1;coin 3 1;spend 2 0;");
        for (int what : new int[] {0, 10, 11, 12}) {
            due("it can not be, " + what, x.funeral(1, 7, what), NONE);
            due("for two, " + what, x.funeral(3, 4, what), NONE);
            due("for nobody, " + what, x.funeral(0, 1, what), what == 0 ? 0 : NONE);
        }
        due("it can", x.funeral(1, 6, 0), 7);
        due("a SPENT one to nobody", x.funeral(1, 6, 12), NONE);
        due("without COINS", Check.of(plains(1)).funeral(1, 1, 0), NONE);
        due("all SPENT", Check.of(plains(1) + "coin 3 0;spend 0 0;").funeral(1, 1, 0), NONE);
    }

    private static void funeralBounds() {
        says("27: BAD");
        for (int n = 0; n <= 6; n++) {
            int ones = n;
            Check.bounds("some of " + n, () -> Check.of(plains(ones)), 0, (1 << n) - 1, (x, some) -> x.funeral(some, 1, 0));
        }
        Check.bounds("n", ALL, 1, 12, (x, n) -> x.funeral(1, n, 0));
        Check.bounds("n for nobody", ALL, 1, 12, (x, n) -> x.funeral(0, n, 0));
        Check.bounds("n and what", ALL, 1, 12, (x, n) -> x.funeral(1, n, 15));
        Check.bounds("what", ALL, 10, 15, (x, w) -> x.funeral(1, 1, w));
        Check.bounds("what", ALL, 0, 0, (x, w) -> x.funeral(1, 1, w));
        for (int w = 1; w < 10; w++) {
            due("what " + w, ALL.make().funeral(1, 1, w), BAD);
            due("what " + -w, ALL.make().funeral(1, 1, -w), BAD);
        }
        for (int w = LOW; w < LOW + 20; w++) {
            due("what " + w, ALL.make().funeral(1, 1, w), BAD);
        }
        for (int n = 0; n <= 6; n++) {
            SilenceCoin x = Check.of(plains(1) + Check.many("coin 1 0;", n));
            for (int c = 0; c < 7; c++) {
                due("COIN " + c + " of " + n, x.funeral(0, 1, 10 + c), c < n ? NONE : BAD);
            }
        }
        due("BAD ahead of NONE", Check.of(plains(1)).funeral(1, 12, 10), BAD);
        due("BAD ahead of NONE", Check.of(plains(1)).funeral(2, 12, 0), BAD);
        due("BAD ahead of NONE", Check.of(plains(1)).funeral(1, 13, 0), BAD);
    }

    private static void raidTakes() {
        says("Terms 2: A RAID: of each ONE who is no taxman, and not SILENT then, his COIN of the greatest WORTH that is not SPENT.");
        String[] kinds = {"plain", "gossip", "deaf", "beggar", "taxman"};
        for (int p = 0; p < 5; p++) {
            SilenceCoin x = Check.of("one " + kinds[p] + " 0 0;coin 1 0;coin 3 0clipped;coin 2 0;coin 1 0;");
            int no = p == 4 ? 0 : 1;
            for (int h = 0; h < 12; h++) {
                due("of a " + kinds[p] + " in " + h, x.raid(10 + h), 3 * no);
            }
            x.spend(1, 5);
            int length = p == 3 ? 3 : 2;
            for (int h = 0; h < 12; h++) {
                boolean isSilent = h >= 5 && h < 5 + length;
                due("when the greatest is SPENT, in " + h, x.raid(10 + h), isSilent ? 0 : 2 * no);
            }
        }
        SilenceCoin y = Check.of(plains(6) + "coin 3 0;coin 3 1;coin 3 2;coin 3 3;coin 3 4;coin 3 5;");
        due("of all six", y.raid(0), 18);
        SilenceCoin z = Check.of(plains(6) + Check.many("coin 3 5;", 6));
        due("one of each", z.raid(0), 3);
        due("of one without COINS", Check.of(plains(1)).raid(0), 0);
        due("of nobody", new SilenceCoin().raid(0), 0);
    }

    private static void raidBest() {
        says("28: WORTHS of all that is taken (what 0), the HOUR, of several the first (1)");
        due("nobody", new SilenceCoin().raid(1), 0);
        for (int h = 0; h < 12; h++) {
            due("nobody in " + h, new SilenceCoin().raid(10 + h), 0);
        }
        SilenceCoin late = Check.of("one beggar 0 0;" + Check.many("coin 3 0;", 4) + "spend 0 0;spend 1 4;spend 2 7;");
        due("the last HOUR alone", late.raid(0), 3);
        due("the last HOUR", late.raid(1), 11);
        due("in it", late.raid(21), 3);
        due("ahead of it", late.raid(20), 0);
        late.spend(3, 11);
        due("none is left", late.raid(0), 0);
        due("the first of all", late.raid(1), 0);
        SilenceCoin ever = Check.of("one beggar 0 0;" + Check.many("coin 3 0;", 4) + "spend 0 0;spend 1 4;spend 2 8;");
        due("SILENT in all HOURS", ever.raid(0), 0);
        due("the first of all", ever.raid(1), 0);
        SilenceCoin two = Check.of(plains(2) + "coin 1 0;coin 2 0;coin 3 1;spend 0 0;");
        due("the best", two.raid(0), 5);
        due("the first of several", two.raid(1), 1);
        due("in 0", two.raid(10), 3);
    }

    private static void raidBounds() {
        says("28: BAD.");
        for (int w = -20; w < 40; w++) {
            boolean isTaken = w == 0 || w == 1 || w >= 10 && w <= 21;
            due("raid " + w + " is BAD", ALL.make().raid(w) == BAD ? 1 : 0, isTaken ? 0 : 1);
            due("raid " + w + " of nobody is BAD", new SilenceCoin().raid(w) == BAD ? 1 : 0, isTaken ? 0 : 1);
        }
        for (int i = 0; i < 30; i++) {
            due("raid", ALL.make().raid(LOW + i), BAD);
            due("raid", ALL.make().raid(HIGH - i), BAD);
        }
    }

    private static void settleRounds() {
        says("29: with what it SETTLES (what 0), in which round (1; the first is 1).");
        due("nobody", new SilenceCoin().settle(1, 0), 1);
        due("nobody", new SilenceCoin().settle(99, 0), 99);
        for (int v : new int[] {1, 2, 50, 98, 99}) {
            due("it stays in the first round", new SilenceCoin().settle(v, 0), v);
            due("it stays in the first round", new SilenceCoin().settle(v, 1), 1);
        }
        // asks for 9 / price hours, of two: only with 4, divided down, as many are asked for as there are
        for (int v = 1; v <= 99; v++) {
            SilenceCoin x = Check.of("one plain 9 9;coin 2 0;");
            due("from " + v, x.settle(v, 0), 4);
            due("rounds from " + v, x.settle(v, 1), 1 + Math.abs(v - 4));
        }
        says("Terms 2: as many hours as he WISHES, as his PURSE pays for (divided down)");
        for (int wish = 0; wish <= 9; wish++) {
            SilenceCoin x = Check.of("one plain " + wish + " 50;coin 3 0;");
            due("WISH " + wish, x.settle(1, 0), wish <= 3 ? 1 : 13);
            due("WISH " + wish + " from 99", x.settle(99, 0), wish < 3 ? 1 : 16);
        }
        due("PURSE 2 at 1", Check.of("one plain 9 2;coin 2 0;").settle(1, 1), 1);
        due("PURSE 3 at 1: 3 asked", Check.of("one plain 9 3;coin 2 0;").settle(1, 0), NONE);
        due("PURSE 4 at 2: 2 asked", Check.of("one plain 9 4;coin 2 0;").settle(1, 0), 2);
        due("PURSE 5 at 2: 2 asked", Check.of("one plain 9 5;coin 2 0;").settle(1, 0), 2);
    }

    private static void settleEdges() {
        says("Terms 2: if for less, 1 less (1 at least)");
        SilenceCoin low = Check.of("one plain 0 50;coin 1 0;");
        for (int v = 1; v <= 99; v++) {
            due("down from " + v, low.settle(v, 0), 1);
            due("rounds from " + v, low.settle(v, 1), v);
        }
        says("Terms 2: if all ask for more, it is 1 more (99 at most)");
        SilenceCoin high = Check.of("one plain 9 50;");
        for (int v = 1; v <= 99; v++) {
            due("up from " + v, high.settle(v, 0), Math.max(51, v));
            due("rounds from " + v, high.settle(v, 1), Math.max(1, 52 - v));
        }
        due("all six ask", Check.of(Check.many("one plain 9 50;", 6) + Check.many("coin 3 0;", 6)).settle(1, 0), 13);
        says("Terms 2: WORTHS of COINS that are not SPENT");
        SilenceCoin spent = Check.of("one plain 9 50;coin 3 0clipped;coin 1 0;");
        due("four", spent.settle(1, 0), 11);
        spent.spend(1, 0);
        due("three", spent.settle(1, 0), 13);
        spent.spend(0, 0);
        due("none", spent.settle(1, 0), 51);
        says("29: NONE: it goes round. Terms 2: if it comes to what it was in a round before");
        SilenceCoin round = Check.of("one plain 9 3;coin 2 0;");
        for (int v = 1; v <= 99; v++) {
            due("round from " + v, round.settle(v, 0), NONE);
            due("round from " + v, round.settle(v, 1), NONE);
        }
    }

    private static void settleBounds() {
        says("29: v (1 to 99). BAD");
        for (int what = 0; what < 2; what++) {
            int w = what;
            Check.bounds("settle", NOTHING, 1, 99, (x, v) -> x.settle(v, w));
            Check.bounds("settle", ALL, 1, 99, (x, v) -> x.settle(v, w));
        }
        Check.bounds("settle", NOTHING, 0, 1, (x, w) -> x.settle(1, w));
        Check.bounds("settle", NOTHING, 0, 1, (x, w) -> x.settle(99, w));
        Check.bounds("settle, it goes round", () -> Check.of("one plain 9 3;coin 2 0;"), 0, 1, (x, w) -> x.settle(1, w));
        due("BAD ahead of NONE", Check.of("one plain 9 3;coin 2 0;").settle(0, 0), BAD);
        due("BAD ahead of NONE", Check.of("one plain 9 3;coin 2 0;").settle(100, 1), BAD);
    }

    // ---- 30 to 33: false ones

    private static SilenceCoin coins(int n) {
        return Check.of(plains(1) + Check.many("coin 1 0;", n));
    }

    private static void test() {
        says("30: TESTED: how many are. BAD (no COINS, too)");
        for (int n = 0; n <= 6; n++) {
            int some = n;
            Check.bounds("test of " + n, () -> coins(some), 1, (1 << n) - 1, (x, v) -> x.test(v, true));
            Check.bounds("test of " + n, () -> coins(some), 1, (1 << n) - 1, (x, v) -> x.test(v, false));
            due("of no COINS", coins(n).test(0, true), BAD);
        }
        due("nothing there", new SilenceCoin().test(1, true), BAD);
        due("nothing there", new SilenceCoin().test(0, true), BAD);
        says("30: FULL. TESTED (8)");
        SilenceCoin x = coins(6);
        for (int i = 1; i <= 8; i++) {
            due("test " + i, x.test(i * 7, true), i);
            due("TESTED", x.count(2), i);
        }
        due("the 9th", x.test(1, true), FULL);
        due("the 9th", x.test(63, false), FULL);
        due("BAD ahead of FULL", x.test(0, true), BAD);
        due("BAD ahead of FULL", x.test(64, true), BAD);
        due("TESTED", x.count(2), 8);
        due("one less", x.untest(7), 8);
        due("the 8th again", x.test(63, true), 8);
    }

    private static void untest() {
        says("31: TESTED are the first n alone: how many there were. BAD.");
        for (int v : Check.outside(0, 0)) {
            due("untest " + v + " of none", new SilenceCoin().untest(v), BAD);
        }
        due("none", new SilenceCoin().untest(0), 0);
        for (int n = 0; n <= 8; n++) {
            int tested = n;
            Check.Make make = () -> {
                SilenceCoin x = coins(6);
                for (int i = 0; i < tested; i++) {
                    x.test(1 << Math.min(i, 5), i >= 5);
                }
                return x;
            };
            Check.bounds("untest of " + n, make, 0, n, SilenceCoin::untest);
            for (int left = 0; left <= n; left++) {
                SilenceCoin x = make.make();
                due("untest", x.untest(left), n);
                due("TESTED", x.count(2), left);
                due("by the first " + left + " alone", x.fakes(1, 0), left < 6 ? 6 - left : 1);
                due("untest again", x.untest(left), left);
                due("more than there are", x.untest(left + 1), BAD);
            }
        }
    }

    private static void fakes() {
        says("32: FALSE ones of k (0 to 3): how many sets (what 0), the least (1; bits), COINS in all (2), in none (3; bits).");
        // by COINS: sets of 0, 1, 2, 3
        int[][] sets = {{1, 0, 0, 0}, {1, 1, 0, 0}, {1, 2, 1, 0}, {1, 3, 3, 1}, {1, 4, 6, 4}, {1, 5, 10, 10}, {1, 6, 15, 20}};
        for (int n = 0; n <= 6; n++) {
            SilenceCoin x = coins(n);
            int all = (1 << n) - 1;
            for (int k = 0; k < 4; k++) {
                String call = " of " + k + " of " + n + " COINS";
                boolean is = k <= n;
                due("how many" + call, x.fakes(k, 0), sets[n][k]);
                due("the least" + call, x.fakes(k, 1), is ? (1 << k) - 1 : NONE);
                due("in all" + call, x.fakes(k, 2), is ? k == n ? all : 0 : NONE);
                due("in none" + call, x.fakes(k, 3), is ? k == 0 ? all : 0 : NONE);
            }
        }
        says("Terms 2: they hissed: they do, if one of them is FALSE");
        SilenceCoin x = coins(6);
        x.test(32, true);
        int[][] hissed = {{0, NONE, NONE, NONE}, {1, 32, 32, 31}, {5, 33, 32, 0}, {10, 35, 32, 0}};
        whole("the last hissed", x, hissed);
        x.test(31, false);
        int[][] alone = {{0, NONE, NONE, NONE}, {1, 32, 32, 31}, {0, NONE, NONE, NONE}, {0, NONE, NONE, NONE}};
        whole("the others did not", x, alone);
        x.test(32, false);
        int[][] against = {{0, NONE, NONE, NONE}, {0, NONE, NONE, NONE}, {0, NONE, NONE, NONE}, {0, NONE, NONE, NONE}};
        whole("against it", x, against);
        SilenceCoin y = coins(6);
        y.test(63, false);
        int[][] good = {{1, 0, 0, 63}, {0, NONE, NONE, NONE}, {0, NONE, NONE, NONE}, {0, NONE, NONE, NONE}};
        whole("none hissed", y, good);
        says("32: BAD");
        for (int what = 0; what < 4; what++) {
            int w = what;
            Check.bounds("fakes", ALL, 0, 3, (z, k) -> z.fakes(k, w));
            Check.bounds("fakes", NOTHING, 0, 3, (z, k) -> z.fakes(k, w));
            Check.bounds("fakes", ALL, 0, 3, (z, v) -> z.fakes(w, v));
            Check.bounds("fakes", NOTHING, 0, 3, (z, v) -> z.fakes(w, v));
        }
    }

    private static void whole(String call, SilenceCoin x, int[][] dues) {
        for (int k = 0; k < 4; k++) {
            for (int w = 0; w < 4; w++) {
                due(call + ": fakes " + k + " " + w, x.fakes(k, w), dues[k][w]);
            }
        }
    }

    private static void nextTest() {
        says("33: fewest sets of k (0 to 3) can be left at the worst, fewer than now, of several the least; how many these are (1).");
        // by COINS: what to test for k 0 .. 3, how many are left
        int[][] some = {{NONE, NONE, NONE, NONE}, {NONE, NONE, NONE, NONE}, {NONE, 1, NONE, NONE}, {NONE, 1, 1, NONE},
            {NONE, 3, 1, 1}, {NONE, 3, 1, 1}, {NONE, 7, 3, 1}};
        int[][] left = {{NONE, NONE, NONE, NONE}, {NONE, NONE, NONE, NONE}, {NONE, 1, NONE, NONE}, {NONE, 2, 2, NONE},
            {NONE, 2, 3, 3}, {NONE, 3, 6, 6}, {NONE, 3, 9, 10}};
        for (int n = 0; n <= 6; n++) {
            SilenceCoin x = coins(n);
            for (int k = 0; k < 4; k++) {
                due("which of " + n + " for " + k, x.next(k, 0), some[n][k]);
                due("how many of " + n + " for " + k, x.next(k, 1), left[n][k]);
            }
        }
        says("33: NONE: by none");
        SilenceCoin one = coins(6);
        one.test(32, true);
        due("one set is left", one.next(1, 0), NONE);
        due("one set is left", one.next(1, 1), NONE);
        due("five are", one.next(2, 0), 3);
        due("five are", one.next(2, 1), 3);
        one.test(32, false);
        for (int k = 0; k < 4; k++) {
            due("none is left", one.next(k, 0), NONE);
            due("none is left", one.next(k, 1), NONE);
        }
        SilenceCoin last = coins(6);
        last.test(15, false);
        due("of the last two", last.next(1, 0), 16);
        due("of the last two", last.next(1, 1), 1);
        for (int i = 0; i < 7; i++) {
            last.test(48, true);
        }
        due("when eight are TESTED", last.next(1, 0), 16);
        says("33: BAD");
        for (int what = 0; what < 2; what++) {
            int w = what;
            Check.bounds("next", ALL, 0, 3, (z, k) -> z.next(k, w));
            Check.bounds("next", NOTHING, 0, 3, (z, k) -> z.next(k, w));
        }
        for (int k = 0; k < 4; k++) {
            int of = k;
            Check.bounds("next", ALL, 0, 1, (z, v) -> z.next(of, v));
            Check.bounds("next", NOTHING, 0, 1, (z, v) -> z.next(of, v));
        }
    }

    private static void moreOfOneThanOfTheOther() {
        says("Terms: BAD: there is no such ONE, COIN, TALK, where there are more of one than of the other");
        int[][] counts = {{6, 1, 3}, {1, 6, 0}, {2, 3, 10}, {3, 2, 1}, {6, 0, 10}, {4, 6, 5}};
        for (int[] n : counts) {
            Check.Make town = () -> Check.of(plains(n[0]) + Check.many("coin 2 0;", n[1]) + Check.many("talk 0 0 1;", n[2]));
            int lastOne = n[0] - 1;
            int lastCoin = n[1] - 1;
            Check.bounds("one", town, 0, lastOne, (x, p) -> x.one(p, 0));
            Check.bounds("quiet", town, 0, lastOne, SilenceCoin::quiet);
            Check.bounds("knows", town, 0, lastOne, (x, p) -> x.knows(p, 0));
            Check.bounds("learns", town, 0, lastOne, (x, p) -> x.learns(p, 0));
            Check.bounds("learns", town, 0, lastOne, (x, q) -> x.learns(0, q));
            Check.bounds("hush", town, 1, lastOne, (x, q) -> x.hush(0, q, 0));
            Check.bounds("may", town, 1, lastOne, (x, q) -> x.may(0, 0, q));
            Check.bounds("speak", town, 1, lastOne, (x, p) -> x.speak(0, p, 0));
            Check.bounds("hear", town, 0, lastOne, (x, p) -> x.hear(p, true));
            Check.bounds("funeral", town, 0, (1 << n[0]) - 1, (x, some) -> x.funeral(some, 1, 0));
            Check.bounds("coin", town, 0, lastCoin, (x, c) -> x.coin(c, 0));
            Check.bounds("give", town, 0, lastCoin, (x, c) -> x.give(c, 0));
            Check.bounds("clip", town, 0, lastCoin, SilenceCoin::clip);
            Check.bounds("spend", town, 0, lastCoin, (x, c) -> x.spend(c, 0));
            Check.bounds("undo", town, 0, lastCoin, SilenceCoin::undo);
            Check.bounds("test", town, 1, (1 << n[1]) - 1, (x, some) -> x.test(some, true));
            Check.bounds("talk", town, 0, n[2] - 1, (x, k) -> x.talk(k, 0));
            allAreSeen(town.make(), n);
        }
    }

    private static void allAreSeen(SilenceCoin x, int[] n) {
        due("PEOPLE", x.rule(0), n[0]);
        due("COINS", x.rule(1), n[1]);
        due("TALKS", x.rule(2), n[2]);
        due("first", x.first(), (1 << n[0]) - 1);
        due("said", x.said(), (1 << n[2]) - 1);
        due("WORTHS", x.count(6), 2 * n[1]);
        due("sets of one", x.fakes(1, 0), n[1]);
        int last = n[0] - 1;
        for (int c = 0; c < n[1]; c++) {
            x.give(c, last);
        }
        due("raid of the last one", x.raid(0), n[1] > 0 ? 2 : 0);
        due("funeral of the last one", x.funeral(1 << last, 2, 0), n[1] > 0 ? 2 : NONE);
        for (int c = 0; c < n[1]; c++) {
            x.spend(c, 11);
        }
        due("SPENT", x.count(0), n[1]);
        due("none is left", x.count(6), 0);
        due("SILENT", x.silent(11), n[1] > 0 ? 1 << last : 0);
    }

    private static List<Check.Call> questions() {
        List<Check.Call> all = new ArrayList<>();
        for (int v = 0; v < 4; v++) {
            int k = v;
            all.add(x -> x.next(k, 0));
            all.add(x -> x.next(k, 1));
            for (int w = 0; w < 4; w++) {
                int what = w;
                all.add(x -> x.fakes(k, what));
            }
            for (int q = 0; q < 6; q++) {
                int to = q;
                all.add(x -> x.knows(k, 2 * to));
                all.add(x -> x.learns(k, to));
                all.add(x -> x.hush(k, to, 0));
                all.add(x -> x.hush(k, to, 1));
                all.add(x -> x.funeral(1 << k | 1 << to, 1 + k, 0));
                all.add(x -> x.funeral(1 << k | 1 << to, 1 + k, 10 + to));
            }
        }
        all.add(SilenceCoin::first);
        all.add(SilenceCoin::said);
        return all;
    }

    private static void questionsInAnyOrder() {
        says("an answer tells what there is, whatever was asked ahead of it");
        Check.Make town = () -> {
            SilenceCoin x = Check.of("law 2;" + SIX_ONES + SIX_COINS + "spend 1 4;talk 0 0 1;talk 3 1 3;talk 5 3 4;"
                + "talk 5 4 5;talk 11 5 0;");
            x.test(28, true);
            x.hear(3, true);
            return x;
        };
        List<Check.Call> all = questions();
        SilenceCoin forth = town.make();
        SilenceCoin back = town.make();
        int[] answers = new int[all.size()];
        for (int i = all.size() - 1; i >= 0; i--) {
            answers[i] = all.get(i).on(back);
        }
        for (int i = 0; i < all.size(); i++) {
            int alone = all.get(i).on(town.make());
            due("question " + i + " asked forth", all.get(i).on(forth), alone);
            due("question " + i + " asked back", answers[i], alone);
        }
    }
}
