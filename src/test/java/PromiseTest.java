/** One method a promise: ordinary calls, the edges that the document names, wrong inputs. */
public final class PromiseTest {
    private static final int BAD = -1, STATE = -2, FULL = -3, NONE = -4;
    private static final int LOW = Integer.MIN_VALUE, HIGH = Integer.MAX_VALUE;

    private static void due(String call, long got, long want) {
        Check.due(call, got, want);
    }

    private static void put(SilenceCoin x, String text) {
        Check.put(x, text);
    }

    private static SilenceCoin of(String text) {
        return Check.of(text);
    }

    private static void taken(String text, int lines) {
        SilenceCoin x = new SilenceCoin();
        put(x, text);
        due("text \"" + text + "\"", x.text(), lines);
        due("its fault", x.fault(), 0);
        due("the tape behind it", x.count(4), 0);
    }

    private static void faulty(String text, int fault, int place) {
        SilenceCoin x = of("law 2;fee 7;one plain 1 1;coin 1 0;");
        x.hear(0, true);
        x.test(1, true);
        x.keep(0);
        put(x, text);
        due("text \"" + text + "\"", x.text(), -10 - place);
        due("fault of \"" + text + "\"", x.fault(), fault);
        due("the tape behind it", x.count(4), 0);
        due("law stays", x.rule(3), 2);
        due("fee stays", x.rule(4), 7);
        due("people stay", x.rule(0), 1);
        due("coins stay", x.rule(1), 1);
        due("known stays", x.count(1), 1);
        due("tested stays", x.count(2), 1);
        due("images stay", x.count(3), 1);
    }

    private static String many(String line, int n) {
        return Check.many(line, n);
    }

    public static void main(String[] args) {
        newObject();
        feed();
        end();
        text();
        textFaults();
        fault();
        rule();
        one();
        coin();
        talk();
        law();
        fee();
        give();
        clip();
        spend();
        undo();
        speak();
        silent();
        quiet();
        may();
        said();
        knows();
        learns();
        hush();
        hear();
        forget();
        first();
        funeral();
        raid();
        settle();
        test();
        untest();
        fakes();
        next();
        chatter();
        keep();
        back();
        sheet();
        lay();
        read();
        torn();
        count();
        Check.close();
    }

    private static void newObject() {
        SilenceCoin x = new SilenceCoin();
        due("BAD", SilenceCoin.BAD, BAD);
        due("STATE", SilenceCoin.STATE, STATE);
        due("FULL", SilenceCoin.FULL, FULL);
        due("NONE", SilenceCoin.NONE, NONE);
        int[] rules = {0, 0, 0, 0, 1};
        for (int i = 0; i < rules.length; i++) {
            due("new rule " + i, x.rule(i), rules[i]);
        }
        int[] counts = {0, 0, 0, 0, 0, NONE, 0};
        for (int i = 0; i < counts.length; i++) {
            due("new count " + i, x.count(i), counts[i]);
        }
        due("new fault", x.fault(), 0);
        due("new torn", x.torn(), 0);
        for (int k = 0; k < 4; k++) {
            due("new sheet has nothing", x.lay(k, 0, 0), -11);
        }
        due("new silent", x.silent(0), 0);
        due("new one", x.one(0, 0), BAD);
        due("new coin", x.coin(0, 0), BAD);
        due("new talk", x.talk(0, 0), BAD);
        due("new knows", x.knows(0, 0), BAD);
        due("new said", x.said(), 0);
        due("new first", x.first(), 0);
        due("new raid 1", x.raid(1), 0);
        due("new raid 21", x.raid(21), 0);
    }

    private static void feed() {
        SilenceCoin x = new SilenceCoin();
        for (int i = 1; i <= 40; i++) {
            due("feed " + i, x.feed(0x6c61772031203b20L), 8 * i);
        }
        due("feed 41", x.feed(0), FULL);
        due("bytes", x.count(4), 320);
        x.end(313);
        due("feed at 313", x.feed(0), FULL);
        due("bytes", x.count(4), 313);
        x.end(312);
        due("feed at 312", x.feed(0x2020202020202020L), 320);
        due("its text: law twice, at 8", x.text(), -18);
        // the highest byte comes first
        SilenceCoin y = new SilenceCoin();
        y.feed(0x6c61772032203b20L);
        due("law 2 ;", y.text(), 1);
        due("law 2", y.rule(3), 2);
    }

    private static void end() {
        SilenceCoin x = new SilenceCoin();
        due("end of nothing", x.end(0), 0);
        due("end beyond", x.end(1), BAD);
        x.feed(0x6665652039203b78L);
        due("end 9", x.end(9), BAD);
        due("end -1", x.end(-1), BAD);
        due("end low", x.end(LOW), BAD);
        due("end high", x.end(HIGH), BAD);
        due("bytes stay", x.count(4), 8);
        due("end 8", x.end(8), 8);
        due("end 7", x.end(7), 8);
        due("bytes", x.count(4), 7);
        due("fee 9 ;", x.text(), 1);
        due("fee 9", x.rule(4), 9);
    }

    private static void text() {
        taken("", 0);
        taken("    ", 0);
        taken("law 2;", 1);
        taken("law 0;fee 0;", 2);
        taken("law2;fee09;", 2);
        taken("  law   1  ;  fee 0 ;  ", 2);
        taken("spend 0 11;talk 0 1 0;coin 3 1clipped;one plain 0 0;one taxman 9 50;", 5);
        SilenceCoin x = of("law 2;fee 5;one gossip 7 49;coin 2 0 clipped;spend 0 3;one deaf 0 0;talk 4 1 0;");
        due("people", x.rule(0), 2);
        due("coins", x.rule(1), 1);
        due("talks", x.rule(2), 1);
        due("law", x.rule(3), 2);
        due("fee", x.rule(4), 5);
        due("spent", x.coin(0, 3), 3);
        x.hear(0, true);
        x.test(1, false);
        x.keep(0);
        x.keep(1);
        x.sheet(0, 2, 5);
        x.read(0, 1, 0, 1);
        put(x, "one plain 1 2;coin 1 0;");
        due("in place of it", x.text(), 2);
        due("law is 0 again", x.rule(3), 0);
        due("fee is 1 again", x.rule(4), 1);
        due("people", x.rule(0), 1);
        due("coins", x.rule(1), 1);
        due("talks", x.rule(2), 0);
        due("not clipped", x.coin(0, 2), 0);
        due("not spent", x.coin(0, 3), NONE);
        due("nothing known", x.count(1), 0);
        due("nothing tested", x.count(2), 0);
        due("no images", x.count(3), 0);
        due("no image 0", x.back(0), STATE);
        due("sheets stay", x.count(5), 5);
        due("torn stays", x.torn(), 3);
        due("empty text", x.text(), 0);
        due("nobody", x.rule(0), 0);
        due("no coins", x.rule(1), 0);
    }

    private static void textFaults() {
        // 1: no token, a number that is too long
        faulty("#", 1, 0);
        faulty("law 1;\tfee 1;", 1, 6);
        faulty("Law 1;", 1, 0);
        faulty("lawX 1;", 1, 3);
        faulty("law 100;", 1, 4);
        faulty("law 000;", 1, 4);
        faulty("123", 1, 0);
        faulty("law -1;", 1, 4);
        faulty("one plain 1 1,", 1, 13);
        faulty("\u00ff", 1, 0);
        faulty("\u0000", 1, 0);
        faulty("law 1{", 1, 5);
        faulty("law `", 1, 4);
        faulty("law /", 1, 4);
        faulty("law :", 1, 4);
        // 2: a token that can not stand there
        faulty("laws 1;", 2, 0);
        faulty("oneplain 1 1;", 2, 0);
        faulty("la 1;", 2, 0);
        faulty("clipped", 2, 0);
        faulty(";", 2, 0);
        faulty("12", 2, 0);
        faulty("law;", 2, 3);
        faulty("law fee;", 2, 4);
        faulty("law 1", 2, 5);
        faulty("law 1   ", 2, 8);
        faulty("law", 2, 3);
        faulty("law ", 2, 4);
        faulty("law 1 1;", 2, 6);
        faulty("law 1 fee 1;", 2, 6);
        faulty("fee;", 2, 3);
        faulty("fee 1", 2, 5);
        faulty("one 1 1 1;", 2, 4);
        faulty("one ;", 2, 4);
        faulty("one", 2, 3);
        faulty("one plains 1 1;", 2, 4);
        faulty("one plai 1 1;", 2, 4);
        faulty("one plain;", 2, 9);
        faulty("one plain 1;", 2, 11);
        faulty("one plain 1 1", 2, 13);
        faulty("one plain 1 1 1;", 2, 14);
        faulty("coin;", 2, 4);
        faulty("coin 1;", 2, 6);
        faulty("coin 1 0", 2, 8);
        faulty("coin 1 0 1;", 2, 9);
        faulty("coin 1 0 clip;", 2, 9);
        faulty("coin 1 0 clippedd;", 2, 9);
        faulty("coin 1 0 clipped", 2, 16);
        faulty("coin 1 0 clipped clipped;", 2, 17);
        faulty("spend;", 2, 5);
        faulty("spend 1;", 2, 7);
        faulty("spend 1 1", 2, 9);
        faulty("spend 1 1 1;", 2, 10);
        faulty("talk 1 1;", 2, 8);
        faulty("talk 1;", 2, 6);
        faulty("talk 1 0 1", 2, 10);
        faulty("talk 1 0 1 2;", 2, 11);
        // 3: a number out of its bounds, met ahead of what comes behind it
        faulty("law 3#", 3, 4);
        faulty("law 99", 3, 4);
        faulty("fee 10;", 3, 4);
        faulty("one deaf 10 #", 3, 9);
        faulty("one deaf 9 51 #", 3, 11);
        faulty("coin 0 #", 3, 5);
        faulty("coin 4 9;", 3, 5);
        faulty("coin 3 6 cut;", 3, 7);
        faulty("spend 6 12;", 3, 6);
        faulty("spend 5 12;", 3, 8);
        faulty("talk 12 6 6;", 3, 5);
        faulty("talk 11 6 6;", 3, 8);
        faulty("talk 11 5 6;", 3, 10);
        // 4: twice; a coin spent already; to himself
        faulty("law 1;fee 1;law #", 4, 12);
        faulty("fee 1;law 1;fee #", 4, 12);
        faulty("spend 5 0;spend 5 #", 4, 16);
        faulty("talk 0 5 5#", 4, 9);
        // 5: too many
        faulty(many("one deaf 0 0;", 6) + "one #", 5, 78);
        faulty(many("coin 1 0;", 6) + "coin #", 5, 54);
        faulty(many("talk 0 0 1;", 10) + "talk #", 5, 110);
        taken(many("one deaf 0 0;", 6) + many("coin 1 5;", 6) + many("talk 0 0 5;", 10), 22);
        // 6: behind all
        faulty("coin 1 0;", 6, 9);
        faulty("coin 1 0; ", 6, 10);
        faulty("one plain 1 1;coin 1 1;", 6, 23);
        faulty("one plain 1 1;spend 0 1;", 6, 24);
        faulty("one plain 1 1;coin 1 0;spend 1 1;", 6, 33);
        faulty("one plain 1 1;talk 1 0 1;", 6, 25);
        faulty("one plain 1 1;talk 1 1 0;", 6, 25);
        faulty("coin 1 0;#", 1, 9);
    }

    private static void fault() {
        SilenceCoin x = new SilenceCoin();
        put(x, "law 3;");
        due("no text yet", x.fault(), 0);
        x.text();
        due("fault 3", x.fault(), 3);
        due("fault 3 again", x.fault(), 3);
        x.text();
        due("fault of an empty text", x.fault(), 0);
    }

    private static void rule() {
        SilenceCoin x = of("law 1;fee 3;one plain 1 1;one plain 1 1;coin 1 0;coin 2 0;coin 1 0;talk 1 0 1;");
        int[] rules = {2, 3, 1, 1, 3};
        for (int i = 0; i < rules.length; i++) {
            due("rule " + i, x.rule(i), rules[i]);
        }
        for (int what : new int[] {-1, 5, LOW, HIGH}) {
            due("rule " + what, x.rule(what), BAD);
        }
    }

    private static void one() {
        SilenceCoin x = of("one plain 0 50;one gossip 9 0;one deaf 2 7;one beggar 3 8;one taxman 4 9;");
        int[] wishes = {0, 9, 2, 3, 4};
        int[] purses = {50, 0, 7, 8, 9};
        for (int p = 0; p < 5; p++) {
            due("kind " + p, x.one(p, 0), p);
            due("wish " + p, x.one(p, 1), wishes[p]);
            due("purse " + p, x.one(p, 2), purses[p]);
        }
        for (int w : new int[] {-1, 5, 6, LOW, HIGH}) {
            due("one " + w, x.one(w, 0), BAD);
        }
        for (int w : new int[] {-1, 3, LOW, HIGH}) {
            due("one 0 " + w, x.one(0, w), BAD);
        }
    }

    private static void coin() {
        SilenceCoin x = of("one plain 0 0;one beggar 0 0;coin 1 0;coin 3 0 clipped;coin 1 0 clipped;"
            + "coin 1 1 clipped;coin 3 1;coin 2 1 clipped;spend 4 11;");
        int[][] dues = {{1, 0, 0, NONE, 1}, {3, 0, 1, NONE, 2}, {1, 0, 1, NONE, 1},
            {1, 1, 1, NONE, 2}, {3, 1, 0, 11, 4}, {2, 1, 1, NONE, 2}};
        for (int c = 0; c < 6; c++) {
            for (int w = 0; w < 5; w++) {
                due("coin " + c + " " + w, x.coin(c, w), dues[c][w]);
            }
        }
        for (int w : new int[] {-1, 6, LOW, HIGH}) {
            due("coin " + w, x.coin(w, 0), BAD);
        }
        for (int w : new int[] {-1, 5, LOW, HIGH}) {
            due("coin 0 " + w, x.coin(0, w), BAD);
        }
    }

    private static void talk() {
        SilenceCoin x = of("one plain 0 0;one plain 0 0;coin 1 1;spend 0 4;talk 4 0 1;talk 4 1 0;talk 5 0 1;");
        int[][] dues = {{4, 0, 1, 0}, {4, 1, 0, 1}, {5, 0, 1, 1}};
        for (int k = 0; k < 3; k++) {
            for (int w = 0; w < 4; w++) {
                due("talk " + k + " " + w, x.talk(k, w), dues[k][w]);
            }
        }
        for (int w : new int[] {-1, 3, 10, LOW, HIGH}) {
            due("talk " + w, x.talk(w, 0), BAD);
        }
        for (int w : new int[] {-1, 4, LOW, HIGH}) {
            due("talk 0 " + w, x.talk(0, w), BAD);
        }
    }

    private static void law() {
        SilenceCoin x = new SilenceCoin();
        due("law 2", x.law(2), 0);
        due("law 1", x.law(1), 2);
        for (int v : new int[] {-1, 3, LOW, HIGH}) {
            due("law " + v, x.law(v), BAD);
        }
        due("law 0", x.law(0), 1);
        due("rule 3", x.rule(3), 0);
    }

    private static void fee() {
        SilenceCoin x = new SilenceCoin();
        due("fee 9", x.fee(9), 1);
        for (int v : new int[] {-1, 10, LOW, HIGH}) {
            due("fee " + v, x.fee(v), BAD);
        }
        due("fee 0", x.fee(0), 9);
        due("rule 4", x.rule(4), 0);
    }

    private static void give() {
        SilenceCoin x = of("one plain 0 0;one beggar 0 0;coin 2 0;coin 1 0;spend 1 3;");
        due("give", x.give(0, 1), 0);
        due("its owner", x.coin(0, 1), 1);
        due("its length", x.coin(0, 4), 3);
        due("give to its owner", x.give(0, 1), 1);
        due("give a spent one", x.give(1, 1), STATE);
        due("its owner", x.coin(1, 1), 0);
        due("a spent one to nobody", x.give(1, 2), BAD);
        due("give", x.give(2, 0), BAD);
        due("give", x.give(-1, 0), BAD);
        due("give", x.give(0, -1), BAD);
        due("give", x.give(LOW, HIGH), BAD);
        x.undo(1);
        due("give an undone one", x.give(1, 1), 0);
    }

    private static void clip() {
        SilenceCoin x = of("one plain 0 0;coin 3 0;coin 3 0 clipped;spend 0 2;");
        due("quiet", x.quiet(0), 0b11100);
        due("clip a spent one", x.clip(0), 1);
        due("quiet", x.quiet(0), 0b1100);
        due("again", x.clip(0), 0);
        due("told so", x.clip(1), 0);
        due("its length", x.coin(0, 4), 2);
        due("its worth", x.coin(0, 0), 3);
        for (int c : new int[] {-1, 2, LOW, HIGH}) {
            due("clip " + c, x.clip(c), BAD);
        }
    }

    private static void spend() {
        SilenceCoin x = of("one plain 0 0;one beggar 0 0;coin 3 0;coin 3 1;coin 1 0 clipped;");
        due("spend", x.spend(0, 0), 3);
        due("spend at the last hour", x.spend(1, 11), 4);
        due("quiet", x.quiet(0), 7);
        due("quiet", x.quiet(1), 1 << 11);
        due("spend again", x.spend(0, 5), STATE);
        due("in no hour", x.spend(0, 12), BAD);
        due("in no hour", x.spend(2, 12), BAD);
        due("in no hour", x.spend(2, -1), BAD);
        due("no coin", x.spend(3, 0), BAD);
        due("no coin", x.spend(-1, 0), BAD);
        due("no coin", x.spend(LOW, HIGH), BAD);
        due("clipped", x.spend(2, 5), 1);
        due("hour", x.coin(2, 3), 5);
    }

    private static void undo() {
        SilenceCoin x = of("one plain 0 0;coin 3 0;coin 3 0;spend 0 0;");
        due("undo", x.undo(0), 0);
        due("undo again", x.undo(0), NONE);
        due("undo one not spent", x.undo(1), NONE);
        due("quiet", x.quiet(0), 0);
        for (int c : new int[] {-1, 2, LOW, HIGH}) {
            due("undo " + c, x.undo(c), BAD);
        }
        due("spend", x.spend(0, 7), 3);
    }

    private static void speak() {
        SilenceCoin x = of("one plain 0 0;one plain 0 0;");
        for (int k = 1; k <= 10; k++) {
            due("speak", x.speak(k - 1, k % 2, 1 - k % 2), k);
        }
        due("speak", x.speak(0, 0, 1), FULL);
        int[][] bads = {{0, 0, 0}, {12, 0, 1}, {-1, 0, 1}, {0, 2, 1}, {0, -1, 1}, {0, 0, 2}, {0, 0, -1},
            {HIGH, LOW, LOW}};
        for (int[] b : bads) {
            due("speak when full", x.speak(b[0], b[1], b[2]), BAD);
        }
        due("hour", x.talk(9, 0), 9);
        due("who", x.talk(9, 1), 0);
        due("whom", x.talk(9, 2), 1);
        SilenceCoin y = of("one plain 0 0;one plain 0 0;");
        for (int[] b : bads) {
            due("speak", y.speak(b[0], b[1], b[2]), BAD);
        }
        due("talks", y.rule(2), 0);
        due("speak in the last hour", y.speak(11, 1, 0), 1);
    }

    private static void silent() {
        SilenceCoin x = of("one plain 0 0;one beggar 0 0;one plain 0 0;coin 2 0;coin 1 0;coin 1 1;coin 3 2;"
            + "spend 0 0;spend 1 3;spend 2 3;spend 3 10;");
        int[] dues = {1, 1, 0, 3, 2, 0, 0, 0, 0, 0, 4, 4};
        for (int h = 0; h < 12; h++) {
            due("silent " + h, x.silent(h), dues[h]);
        }
        for (int h : new int[] {-1, 12, LOW, HIGH}) {
            due("silent " + h, x.silent(h), BAD);
        }
    }

    private static void quiet() {
        SilenceCoin x = of("one plain 0 0;one plain 0 0;coin 3 0;coin 3 0;coin 1 0;spend 0 2;spend 1 4;spend 2 11;");
        due("quiet", x.quiet(0), 0b100001111100);
        due("quiet", x.quiet(1), 0);
        for (int p : new int[] {-1, 2, LOW, HIGH}) {
            due("quiet " + p, x.quiet(p), BAD);
        }
    }

    private static void may() {
        SilenceCoin x = of("one plain 0 0;one plain 0 0;one plain 0 0;one taxman 0 0;coin 1 0;coin 1 1;coin 1 3;"
            + "spend 0 5;spend 1 5;spend 2 5;");
        // pairs: neither silent (only in hour 4), hearer silent, speaker silent, both, taxman
        int[][] dues = {{1, 0, 1, 0, 1}, {1, 0, 1, 1, 1}, {1, 0, 0, 0, 1}};
        for (int law = 0; law < 3; law++) {
            x.law(law);
            due("neither", x.may(4, 0, 2), dues[law][0]);
            due("hearer", x.may(5, 2, 0), dues[law][1]);
            due("speaker", x.may(5, 0, 2), dues[law][2]);
            due("both", x.may(5, 0, 1), dues[law][3]);
            due("taxman to silent", x.may(5, 3, 0), dues[law][4]);
            due("taxman silent himself", x.may(5, 3, 2), dues[law][4]);
        }
        x.law(0);
        due("to a taxman who is silent", x.may(5, 2, 3), 0);
        int[][] bads = {{0, 0, 0}, {0, 3, 3}, {12, 0, 1}, {-1, 0, 1}, {0, 4, 1}, {0, 0, 4}, {0, -1, 0}, {0, 0, LOW}};
        for (int[] b : bads) {
            due("may", x.may(b[0], b[1], b[2]), BAD);
        }
    }

    private static void said() {
        SilenceCoin x = of("one plain 0 0;one plain 0 0;coin 1 0;spend 0 0;" + many("talk 0 1 0;talk 0 0 1;", 5));
        due("said", x.said(), 0b1010101010);
        x.law(2);
        due("said", x.said(), 0);
        x.undo(0);
        due("said", x.said(), 0b1111111111);
    }

    private static void knows() {
        // talks of a later hour told first; two of one hour go by order
        SilenceCoin x = of("one plain 0 0;one plain 0 0;one plain 0 0;one deaf 0 0;one gossip 0 0;"
            + "talk 5 1 2;talk 2 0 1;talk 7 2 3;talk 8 4 2;talk 8 4 0;");
        due("behind 0", x.knows(0, 0), 1);
        due("behind 1", x.knows(0, 1), 1);
        due("behind 2", x.knows(0, 2), 3);
        due("behind 5", x.knows(0, 5), 7);
        due("the deaf one does not", x.knows(0, 7), 7);
        due("the gossip draws it out", x.knows(0, 8), 23);
        due("2 by the gossip to 0", x.knows(2, 11), 21);
        due("a deaf one who begins", x.knows(3, 11), 8);
        SilenceCoin y = of("one plain 0 0;one plain 0 0;one plain 0 0;talk 3 1 2;talk 3 0 1;");
        due("by order in an hour", y.knows(0, 11), 3);
        SilenceCoin z = of("one deaf 0 0;one gossip 0 0;talk 3 0 1;");
        due("deaf to gossip", z.knows(0, 3), 3);
        due("gossip to deaf", z.knows(1, 3), 2);
        SilenceCoin t = of("one plain 0 0;one gossip 0 0;coin 1 1;spend 0 3;talk 3 0 1;");
        due("not said: no way round either", t.knows(1, 3), 2);
        SilenceCoin s = of("one plain 0 0;one plain 0 0;talk 3 0 1;");
        due("not back among plain ones", s.knows(1, 11), 2);
        int[][] bads = {{2, 0}, {-1, 0}, {0, 12}, {0, -1}, {LOW, HIGH}};
        for (int[] b : bads) {
            due("knows", s.knows(b[0], b[1]), BAD);
        }
    }

    private static void learns() {
        SilenceCoin x = of("one plain 0 0;one plain 0 0;one deaf 0 0;talk 11 0 1;talk 4 0 2;talk 0 1 0;");
        due("at 11", x.learns(0, 1), 11);
        due("at 0", x.learns(1, 0), 0);
        due("knows it behind 0", x.knows(1, 0), 3);
        x.speak(0, 0, 1);
        due("at 0, too", x.learns(0, 1), 0);
        due("deaf", x.learns(0, 2), NONE);
        due("himself", x.learns(1, 1), 0);
        due("deaf himself", x.learns(2, 2), 0);
        due("never", x.learns(2, 0), NONE);
        int[][] bads = {{3, 0}, {-1, 0}, {0, 3}, {0, -1}, {3, 3}, {LOW, LOW}};
        for (int[] b : bads) {
            due("learns", x.learns(b[0], b[1]), BAD);
        }
    }

    private static void hush() {
        SilenceCoin x = of("one plain 0 0;one plain 0 0;one taxman 0 0;one deaf 0 0;coin 1 0;coin 2 1;coin 2 1;"
            + "spend 1 11;talk 5 0 1;talk 6 2 1;");
        due("coin", x.hush(0, 1, 0), 2);
        due("hour", x.hush(0, 1, 1), 4);
        x.undo(1);
        due("the first coin", x.hush(0, 1, 0), 1);
        due("hour", x.hush(0, 1, 1), 4);
        x.law(2);
        due("the speaker's own", x.hush(0, 1, 0), 0);
        due("hour", x.hush(0, 1, 1), 5);
        due("spends nothing", x.count(0), 0);
        due("a taxman is not hushed", x.hush(2, 1, 0), NONE);
        due("a taxman is not hushed", x.hush(2, 1, 1), NONE);
        due("he does not hear it", x.hush(1, 0, 0), STATE);
        due("deaf", x.hush(0, 3, 1), STATE);
        int[][] bads = {{0, 0, 0}, {4, 0, 0}, {0, 4, 0}, {-1, 0, 0}, {0, -1, 0}, {0, 1, 2}, {0, 1, -1}, {1, 0, 2}};
        for (int[] b : bads) {
            due("hush", x.hush(b[0], b[1], b[2]), BAD);
        }
        SilenceCoin y = of("one plain 0 0;one plain 0 0;coin 1 1;talk 1 0 1;talk 5 0 1;");
        due("one coin is too few", y.hush(0, 1, 0), NONE);
    }

    private static void hear() {
        SilenceCoin x = of("one plain 0 0;one plain 0 0;");
        for (int i = 1; i <= 6; i++) {
            due("hear", x.hear(i % 2, i % 3 == 0), i);
        }
        due("hear", x.hear(0, true), FULL);
        due("hear nobody", x.hear(2, true), BAD);
        due("hear nobody", x.hear(-1, true), BAD);
        due("known", x.count(1), 6);
    }

    private static void forget() {
        SilenceCoin x = of("one plain 0 0;one plain 0 0;");
        due("forget of none", x.forget(0), 0);
        due("forget", x.forget(1), BAD);
        x.hear(0, true);
        x.hear(0, false);
        x.hear(1, true);
        due("forget", x.forget(4), BAD);
        due("forget", x.forget(-1), BAD);
        due("forget", x.forget(LOW), BAD);
        due("forget", x.forget(3), 3);
        due("first", x.first(), 0);
        due("forget", x.forget(1), 3);
        due("first", x.first(), 1);
        due("known", x.count(1), 1);
        due("forget", x.forget(0), 1);
        due("first", x.first(), 3);
    }

    private static void first() {
        SilenceCoin x = of("one plain 0 0;one plain 0 0;one plain 0 0;talk 1 0 1;talk 2 1 2;");
        due("all", x.first(), 7);
        x.hear(2, true);
        due("all", x.first(), 7);
        x.hear(1, true);
        due("first", x.first(), 3);
        x.hear(0, false);
        due("first", x.first(), 2);
        x.hear(0, true);
        due("first", x.first(), 0);
    }

    private static void funeral() {
        SilenceCoin x = of("fee 2;one plain 0 0;one beggar 0 0;one plain 0 0;"
            + "coin 1 0;coin 1 0;coin 2 0;coin 3 2 clipped;coin 3 2;spend 4 0;");
        due("of the own", x.funeral(1, 1, 0), 1);
        due("not given ahead of given", x.funeral(1, 1, 10), NONE);
        due("the second", x.funeral(1, 1, 11), 0);
        due("for nobody", x.funeral(0, 12, 0), 0);
        due("for nobody", x.funeral(0, 12, 10), NONE);
        due("a beggar has one more", x.funeral(2, 2, 0), 3);
        due("to him", x.funeral(2, 2, 11), 1);
        due("not the first", x.funeral(2, 2, 10), NONE);
        due("clipped", x.funeral(4, 2, 0), 3);
        due("clipped", x.funeral(4, 2, 13), 2);
        due("one more than it has", x.funeral(4, 3, 0), 6);
        due("from coin 1", x.funeral(4, 3, 11), 2);
        due("from coin 0 not", x.funeral(4, 3, 10), NONE);
        due("a spent one is not given", x.funeral(4, 7, 0), NONE);
        due("all that there is", x.funeral(4, 6, 0), 13);
        due("a spent one is given to nobody", x.funeral(4, 6, 14), NONE);
        due("for two", x.funeral(5, 2, 0), 5);
        due("for two", x.funeral(5, 2, 10), NONE);
        due("for two", x.funeral(5, 2, 11), NONE);
        due("for two", x.funeral(5, 2, 12), 0);
        due("for two", x.funeral(5, 2, 13), 2);
        x.fee(0);
        due("without a fee", x.funeral(2, 4, 0), 2);
        due("without a fee", x.funeral(2, 4, 10), 1);
        due("without a fee", x.funeral(2, 4, 11), 1);
        int[][] bads = {{8, 1, 0}, {-1, 1, 0}, {LOW, 1, 0}, {HIGH, 1, 0}, {1, 0, 0}, {1, 13, 0}, {1, -1, 0}, {1, 1, 1},
            {1, 1, -1}, {1, 1, 9}, {1, 1, 15}, {1, 1, HIGH}, {1, 1, LOW}, {7, 12, 15}};
        for (int[] b : bads) {
            due("funeral " + b[0] + " " + b[1] + " " + b[2], x.funeral(b[0], b[1], b[2]), BAD);
        }
        SilenceCoin y = of("fee 0;one plain 0 0;one plain 0 0;coin 1 0;coin 1 0;");
        due("by ones", y.funeral(3, 1, 10), 0);
        due("by ones", y.funeral(3, 1, 11), 1);
        due("no such coin", y.funeral(3, 1, 12), BAD);
    }

    private static void raid() {
        SilenceCoin x = of("one plain 0 0;one beggar 0 0;one taxman 0 0;coin 1 0;coin 2 0 clipped;coin 3 0;coin 2 1;"
            + "coin 3 2;coin 1 1;spend 2 0;spend 5 2;");
        int[] dues = {2, 2, 0, 2, 4, 4, 4, 4, 4, 4, 4, 4};
        for (int h = 0; h < 12; h++) {
            due("raid in " + h, x.raid(10 + h), dues[h]);
        }
        due("the best", x.raid(0), 4);
        due("the first of several", x.raid(1), 4);
        x.undo(2);
        due("the best", x.raid(0), 5);
        due("the first of several", x.raid(1), 0);
        SilenceCoin y = of("one beggar 0 0;coin 3 0;coin 3 0;coin 3 0;coin 1 0;spend 0 0;spend 1 4;spend 2 8;");
        due("silent in all hours", y.raid(0), 0);
        due("the first of all", y.raid(1), 0);
        for (int w : new int[] {-1, 2, 9, 22, LOW, HIGH}) {
            due("raid " + w, x.raid(w), BAD);
        }
    }

    private static void settle() {
        SilenceCoin x = of("one plain 9 9;coin 1 0;coin 1 0;");
        due("from 1", x.settle(1, 0), 4);
        due("4 rounds", x.settle(1, 1), 4);
        due("at once", x.settle(4, 1), 1);
        due("down from 99: 9 / 5 is 1", x.settle(99, 0), 4);
        due("96 rounds", x.settle(99, 1), 96);
        x.spend(0, 0);
        due("one coin less: 9 / 5 is 1", x.settle(1, 0), 5);
        due("down: 9 / 9 is 1", x.settle(99, 0), 9);
        int[][] bads = {{0, 0}, {100, 0}, {-1, 0}, {LOW, 0}, {HIGH, 0}, {1, 2}, {1, -1}, {0, 1}};
        for (int[] b : bads) {
            due("settle", x.settle(b[0], b[1]), BAD);
        }
        SilenceCoin y = of("one plain 1 0;coin 1 0;");
        due("1 at least", y.settle(50, 0), 1);
        due("its round", y.settle(50, 1), 50);
        due("at once", y.settle(1, 1), 1);
        due("the longest way", y.settle(99, 1), 99);
        SilenceCoin z = of("one plain 5 50;one plain 5 50;coin 3 0;coin 2 1;");
        due("goes round", z.settle(16, 0), NONE);
        due("goes round", z.settle(17, 1), NONE);
        due("goes round", z.settle(99, 0), NONE);
        SilenceCoin w = of("one plain 1 50;");
        due("nobody can pay 51", w.settle(1, 0), 51);
        due("round 51", w.settle(1, 1), 51);
        due("stays where all is nought", w.settle(99, 0), 99);
    }

    private static void test() {
        SilenceCoin x = of("one plain 0 0;coin 1 0;coin 1 0;");
        for (int i = 1; i <= 8; i++) {
            due("test", x.test(i % 3 + 1, i % 2 == 0), i);
        }
        due("test", x.test(1, true), FULL);
        for (int some : new int[] {0, 4, -1, LOW, HIGH}) {
            due("test of " + some, x.test(some, true), BAD);
        }
        due("tested", x.count(2), 8);
        due("without coins", new SilenceCoin().test(1, true), BAD);
    }

    private static void untest() {
        SilenceCoin x = of("one plain 0 0;coin 1 0;coin 1 0;");
        due("untest", x.untest(0), 0);
        due("untest", x.untest(1), BAD);
        x.test(1, true);
        x.test(1, false);
        due("fakes", x.fakes(1, 0), 0);
        due("untest", x.untest(3), BAD);
        due("untest", x.untest(-1), BAD);
        due("untest", x.untest(HIGH), BAD);
        due("untest", x.untest(1), 2);
        due("fakes", x.fakes(1, 0), 1);
        due("untest", x.untest(0), 1);
        due("fakes", x.fakes(1, 0), 2);
        due("tested", x.count(2), 0);
    }

    private static void fakes() {
        SilenceCoin x = of("one plain 0 0;coin 1 0;coin 1 0;coin 1 0;coin 1 0;");
        int[][] dues = {{1, 0, 0, 15}, {4, 1, 0, 0}, {6, 3, 0, 0}, {4, 7, 0, 0}};
        for (int k = 0; k < 4; k++) {
            for (int w = 0; w < 4; w++) {
                due("fakes " + k + " " + w, x.fakes(k, w), dues[k][w]);
            }
        }
        x.test(6, true);
        x.test(12, false);
        // coins 2 and 3 are good, so coin 1 is false
        int[][] after = {{0, NONE, NONE, NONE}, {1, 2, 2, 13}, {1, 3, 3, 12}, {0, NONE, NONE, NONE}};
        for (int k = 0; k < 4; k++) {
            for (int w = 0; w < 4; w++) {
                due("fakes " + k + " " + w, x.fakes(k, w), after[k][w]);
            }
        }
        int[][] bads = {{-1, 0}, {4, 0}, {LOW, 0}, {0, 4}, {0, -1}, {3, HIGH}};
        for (int[] b : bads) {
            due("fakes", x.fakes(b[0], b[1]), BAD);
        }
        SilenceCoin y = of("one plain 0 0;coin 1 0;coin 1 0;");
        due("of more than there are", y.fakes(3, 0), 0);
        due("of more than there are", y.fakes(3, 3), NONE);
    }

    private static void next() {
        SilenceCoin x = of("one plain 0 0;coin 1 0;coin 1 0;coin 1 0;coin 1 0;coin 1 0;");
        due("half of five", x.next(1, 0), 3);
        due("three at the worst", x.next(1, 1), 3);
        due("of ten pairs", x.next(2, 0), 1);
        due("six at the worst", x.next(2, 1), 6);
        due("of ten threes", x.next(3, 0), 1);
        due("six at the worst", x.next(3, 1), 6);
        due("of none", x.next(0, 0), NONE);
        due("of none", x.next(0, 1), NONE);
        due("tests nothing", x.count(2), 0);
        x.test(16, false);
        due("of six pairs", x.next(2, 0), 1);
        due("three at the worst", x.next(2, 1), 3);
        int[][] bads = {{-1, 0}, {4, 0}, {HIGH, 0}, {0, 2}, {0, -1}, {1, LOW}};
        for (int[] b : bads) {
            due("next", x.next(b[0], b[1]), BAD);
        }
    }

    private static void chatter() {
        String town = "one plain 0 0;one plain 0 0;one taxman 0 0;coin 3 0;coin 3 1;coin 3 1;coin 3 0;"
            + "spend 0 0;spend 1 2;spend 2 6;spend 3 9;";
        SilenceCoin x = of(town);
        for (int seed : new int[] {0, 1, -1, 77, LOW, HIGH}) {
            // anew for each seed: a hundred and more calls of may() are asked by it
            x = of(town);
            for (int law = 0; law < 3; law++) {
                x.law(law);
                due("chatter " + seed, x.chatter(seed, 60), chatterDue(x, seed, 60));
                due("chatter " + seed, x.chatter(seed, 1), chatterDue(x, seed, 1));
            }
        }
        for (int n : new int[] {0, 61, -1, LOW, HIGH}) {
            due("chatter of " + n, x.chatter(5, n), BAD);
            due("chatter of " + n + " among nobody", new SilenceCoin().chatter(5, n), BAD);
        }
        due("nobody", new SilenceCoin().chatter(5, 1), STATE);
        due("a taxman alone", of("one taxman 0 0;").chatter(5, 60), 0);
        due("talks stay", x.rule(2), 0);
    }

    private static int chatterDue(SilenceCoin x, int seed, int n) {
        long now = seed;
        int count = 0;
        int[] drawn = new int[3];
        for (int i = 0; i < n; i++) {
            for (int j = 0; j < 3; j++) {
                now = (now * 1103515245L + 12345L) & 0xffffffffL;
                drawn[j] = (int) ((now & 0x7fff0000L) >> 16) % (j == 0 ? 12 : 3);
            }
            count += drawn[1] == drawn[2] ? 0 : x.may(drawn[0], drawn[1], drawn[2]);
        }
        return count;
    }

    private static void keep() {
        SilenceCoin x = of("one plain 0 0;one plain 0 0;coin 1 0;");
        due("keep", x.keep(0), 0);
        due("keep", x.keep(0), 1);
        due("keep", x.keep(1), 0);
        due("images", x.count(3), 2);
        for (int k : new int[] {-1, 2, LOW, HIGH}) {
            due("keep " + k, x.keep(k), BAD);
        }
        x.law(2);
        x.keep(0);
        x.law(1);
        x.back(0);
        due("kept anew", x.rule(3), 2);
    }

    private static void back() {
        SilenceCoin x = of("one plain 0 0;one plain 0 0;coin 3 0;coin 2 1;talk 0 0 1;");
        due("none", x.back(1), STATE);
        x.keep(1);
        x.law(2);
        x.fee(9);
        x.give(0, 1);
        x.clip(0);
        x.spend(1, 4);
        x.speak(1, 0, 1);
        x.hear(0, true);
        x.test(1, true);
        x.keep(0);
        due("back", x.back(1), 1);
        due("law", x.rule(3), 0);
        due("fee", x.rule(4), 1);
        due("talks", x.rule(2), 1);
        due("owner", x.coin(0, 1), 0);
        due("clipped", x.coin(0, 2), 0);
        due("spent", x.coin(1, 3), NONE);
        due("known stays", x.count(1), 1);
        due("tested stays", x.count(2), 1);
        due("images stay", x.count(3), 2);
        due("back", x.back(0), 2);
        due("law", x.rule(3), 2);
        due("owner", x.coin(0, 1), 1);
        due("clipped", x.coin(0, 2), 1);
        due("spent", x.coin(1, 3), 4);
        due("second talk", x.talk(1, 0), 1);
        for (int k : new int[] {-1, 2, LOW, HIGH}) {
            due("back " + k, x.back(k), BAD);
        }
    }

    private static void sheet() {
        SilenceCoin x = new SilenceCoin();
        due("sheet of 0", x.sheet(0, 0, 0), 1);
        due("its cells", x.count(5), 0);
        due("sheet of 40", x.sheet(0, 2, 40), 1);
        due("its cells", x.count(5), 40);
        due("below 0", x.sheet(0, 1, -1), -14);
        due("below 0", x.sheet(0, 1, LOW), -14);
        due("its cells stay", x.count(5), 40);
        int[][] bads = {{0, 0, 41}, {4, 0, 1}, {-1, 0, 1}, {0, 3, 1}, {0, -1, 1}, {0, 0, HIGH}, {4, 0, -1}, {0, 3, -1}};
        for (int[] b : bads) {
            due("sheet", x.sheet(b[0], b[1], b[2]), BAD);
        }
        SilenceCoin y = of("one plain 0 0;one plain 0 0;");
        y.sheet(3, 1, 3);
        y.lay(3, 2, 1);
        due("read", y.read(3, 1, 0, 1), 1);
        y.sheet(3, 1, 3);
        due("a new row is all 0", y.read(3, 1, 0, 1), -20);
    }

    private static void lay() {
        SilenceCoin x = of("one plain 0 0;one plain 0 0;");
        due("nothing", x.lay(2, 0, 1), -11);
        due("nothing, no index", x.lay(2, -1, 1), -11);
        for (int lane = 0; lane < 3; lane++) {
            x.sheet(lane, lane, 3);
            due("lay", x.lay(lane, 0, 0x01010000 * (lane < 2 ? 1 : 0) + (lane == 0 ? 0x100 : 0) + 3), 1);
            due("lay", x.lay(lane, 2, 1), 1);
            due("lay beyond", x.lay(lane, 3, 1), -12);
            due("lay below", x.lay(lane, -1, 1), -12);
            due("lay far", x.lay(lane, HIGH, 1), -12);
            due("lay far below", x.lay(lane, LOW, 1), -12);
            due("the lowest bits", x.read(lane, lane, 0, 1), 1);
            due("the lowest bits", x.talk(lane, 0), 3);
        }
        x.lay(1, 0, 0x100 + 3);
        due("a short has more", x.read(1, 1, 0, 1), -20);
        x.lay(2, 0, 0x10000 + 3);
        due("an int has more", x.read(2, 2, 0, 1), -20);
        due("no sheet", x.lay(4, 0, 0), BAD);
        due("no sheet", x.lay(-1, 0, 0), BAD);
    }

    private static void layTalks(SilenceCoin x, int k, int[] cells) {
        for (int i = 0; i < cells.length; i++) {
            x.lay(k, i, cells[i]);
        }
    }

    private static void read() {
        SilenceCoin x = of("one plain 0 0;one plain 0 0;");
        x.sheet(0, 0, 8);
        layTalks(x, 0, new int[] {1, 0, 1, 2, 1, 0, 11, 0});
        due("both", x.read(0, 0, 0, 2), 2);
        due("hour", x.talk(1, 0), 2);
        due("who", x.talk(1, 1), 1);
        due("whom", x.talk(1, 2), 0);
        due("what was whole ahead", x.read(0, 0, 3, 2), 1);
        due("torn by the index", x.torn(), 2);
        due("none", x.read(0, 0, 0, 0), 0);
        due("from far", x.read(0, 0, HIGH, 13), 0);
        due("torn", x.torn(), 2);
        due("from far below", x.read(0, 0, LOW, 13), 0);
        due("from below", x.read(0, 0, -3, 2), 0);
        due("from behind", x.read(0, 0, 8, 1), 0);
        due("another lane", x.read(0, 1, 0, 2), 0);
        due("torn by the cast", x.torn(), 3);
        due("another lane, no index", x.read(0, 2, -1, 1), 0);
        due("torn by the cast", x.torn(), 3);
        due("nothing", x.read(1, 1, -1, 2), 0);
        due("torn by null", x.torn(), 1);
        due("talks", x.rule(2), 3);
        int[][] bads = {{4, 0, 0, 0}, {-1, 0, 0, 0}, {0, 3, 0, 0}, {0, -1, 0, 0}, {0, 0, 0, 14}, {0, 0, 0, -1}};
        for (int[] b : bads) {
            due("read", x.read(b[0], b[1], b[2], b[3]), BAD);
        }
        due("torn stays", x.torn(), 1);
        x.lay(0, 5, 2);
        due("refused: no such one", x.read(0, 0, 0, 3), -21);
        due("none came", x.rule(2), 3);
        due("torn stays", x.torn(), 1);
        x.sheet(3, 2, 40);
        for (int i = 0; i < 39; i += 3) {
            x.lay(3, i + 1, 1);
        }
        due("the eighth is too many", x.read(3, 2, 0, 13), -27);
        due("none came", x.rule(2), 3);
        due("seven more", x.read(3, 2, 0, 7), 7);
        due("full", x.read(3, 2, 0, 1), -20);
        due("talks", x.rule(2), 10);
        due("not a whole one", x.read(3, 2, 38, 1), 0);
        due("torn", x.torn(), 2);
    }

    private static void torn() {
        SilenceCoin x = of("one plain 0 0;one plain 0 0;");
        due("none", x.torn(), 0);
        x.sheet(0, 0, 3);
        x.read(0, 0, 0, 1);
        due("a read that was refused", x.torn(), 0);
        x.read(0, 1, 0, 1);
        due("cast", x.torn(), 3);
        x.read(0, 0, 0, 1);
        due("refused: as it was", x.torn(), 3);
        x.read(9, 0, 0, 1);
        due("bad: as it was", x.torn(), 3);
        x.sheet(0, 0, -1);
        x.lay(3, 0, 0);
        due("of read alone", x.torn(), 3);
        x.lay(0, 2, 1);
        x.read(0, 0, 0, 1);
        due("a whole one", x.torn(), 0);
        x.read(3, 0, 0, 1);
        due("null", x.torn(), 1);
        x.read(0, 0, 0, 0);
        due("nothing was to be read", x.torn(), 0);
    }

    private static void count() {
        SilenceCoin x = of("one plain 0 0;coin 1 0;coin 2 0;coin 3 0;spend 1 0;");
        due("spent", x.count(0), 1);
        due("worths not spent", x.count(6), 4);
        x.spend(0, 1);
        x.hear(0, true);
        x.hear(0, true);
        x.test(1, true);
        x.test(1, true);
        x.test(1, true);
        x.keep(1);
        x.feed(0);
        x.feed(0);
        int[] dues = {2, 2, 3, 1, 16, NONE, 3};
        for (int w = 0; w < dues.length; w++) {
            due("count " + w, x.count(w), dues[w]);
        }
        x.sheet(1, 0, 5);
        due("sheet 0 has nothing", x.count(5), NONE);
        x.sheet(0, 0, 6);
        due("cells", x.count(5), 6);
        for (int w : new int[] {-1, 7, LOW, HIGH}) {
            due("count " + w, x.count(w), BAD);
        }
    }
}
