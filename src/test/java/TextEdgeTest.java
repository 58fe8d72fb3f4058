import java.util.ArrayList;
import java.util.List;

/** Promises 1 to 5 and what the document's Terms say of texts: each sentence at its edges. */
public final class TextEdgeTest {
    private static final String[] KINDS = {"plain", "gossip", "deaf", "beggar", "taxman"};

    private static void due(String call, long got, long want) {
        Check.due(call, got, want);
    }

    /** Told to an object that has something of all, so that what stays or goes is seen. */
    private static SilenceCoin told() {
        SilenceCoin x = Check.of("law 2;fee 7;one plain 1 1;one deaf 2 3;coin 3 1clipped;spend 0 5;talk 4 0 1;");
        x.hear(0, true);
        x.test(1, true);
        x.keep(0);
        x.keep(1);
        x.sheet(0, 1, 7);
        return x;
    }

    private static void stays(String why, SilenceCoin x) {
        int[] rules = {2, 1, 1, 2, 7};
        for (int w = 0; w < 5; w++) {
            due(why + ": rule " + w, x.rule(w), rules[w]);
        }
        due(why + ": spent", x.coin(0, 3), 5);
        due(why + ": clipped", x.coin(0, 2), 1);
        due(why + ": purse", x.one(1, 2), 3);
        due(why + ": talk", x.talk(0, 0), 4);
        int[] counts = {1, 1, 1, 2, 0, 7, 0};
        for (int w = 0; w < 7; w++) {
            due(why + ": count " + w, x.count(w), counts[w]);
        }
        due(why + ": image", x.back(0), 1);
    }

    private static void faulty(String text, int fault, int place) {
        SilenceCoin x = told();
        Check.put(x, text);
        String why = "\"" + text + "\"";
        due("text " + why, x.text(), -10 - place);
        due("fault of " + why, x.fault(), fault);
        stays(why, x);
    }

    private static SilenceCoin taken(String text, int lines) {
        SilenceCoin x = told();
        Check.put(x, text);
        due("text \"" + text + "\"", x.text(), lines);
        due("fault of \"" + text + "\"", x.fault(), 0);
        return x;
    }

    private static String blanks(int n) {
        return Check.many(" ", n);
    }

    public static void main(String[] args) {
        newObject();
        feedBytes();
        feedFull();
        endEdges();
        tapePlaces();
        signs();
        figures();
        blanksBetween();
        linesNoneAndAll();
        boundsOfNumbers();
        whatMayNotStand();
        ends();
        secondTimes();
        tooMany();
        behindAll();
        firstMet();
        inPlaceOfWhatThereWas();
        nothingIsLeftOver();
        emptyThen();
        latestFault();
        Check.close();
    }

    private static void newObject() {
        Check.says("1: Nobody, no COINS; SHEETS have nothing. LAW (0 to 2; 0). FEE (0 to 9; 1).");
        int[] rules = {0, 0, 0, 0, 1};
        int[] counts = {0, 0, 0, 0, 0, Check.NONE, 0};
        SilenceCoin x = new SilenceCoin();
        for (int w = 0; w < 5; w++) {
            due("rule " + w, x.rule(w), rules[w]);
        }
        for (int w = 0; w < 7; w++) {
            due("count " + w, x.count(w), counts[w]);
        }
        for (int k = 0; k < 4; k++) {
            due("lay on sheet " + k, x.lay(k, 0, 0), -11);
            due("read of sheet " + k, x.read(k, 0, 0, 1), 0);
            due("torn by sheet " + k, x.torn(), 1);
        }
        for (int k = 0; k < 2; k++) {
            due("image " + k, x.back(k), Check.STATE);
        }
        for (int v : new int[] {0, 1, 5, 6, Check.LOW, Check.HIGH}) {
            due("one " + v, x.one(v, 0), Check.BAD);
            due("coin " + v, x.coin(v, 0), Check.BAD);
            due("talk " + v, x.talk(v, 0), Check.BAD);
            due("quiet " + v, x.quiet(v), Check.BAD);
        }
        due("fault", x.fault(), 0);
        due("torn", new SilenceCoin().torn(), 0);
        due("said", x.said(), 0);
        due("first", x.first(), 0);
        for (int h = 0; h < 12; h++) {
            due("silent " + h, x.silent(h), 0);
        }
    }

    private static void feedBytes() {
        Check.says("2: Eight bytes come behind THE TAPE, the highest first: how many it has.");
        for (int i = 0; i < 8; i++) {
            for (long odd : new long[] {0, 31, 33, 127, 128, 255}) {
                int shift = 56 - 8 * i;
                long v = 0x2020202020202020L & ~(255L << shift) | odd << shift;
                SilenceCoin x = new SilenceCoin();
                due("feed", x.feed(v), 8);
                due("byte " + odd + " in place " + i, x.text(), -10 - i);
                due("is no token", x.fault(), 1);
            }
        }
        long[] far = {Long.MIN_VALUE, Long.MAX_VALUE, -1, 0, 1, Integer.MIN_VALUE, Integer.MAX_VALUE};
        for (long v : far) {
            SilenceCoin x = new SilenceCoin();
            due("feed " + v, x.feed(v), 8);
            due("feed " + v + " again", x.feed(v), 16);
            due("bytes", x.count(4), 16);
            due("text", x.text(), -10);
            due("fault", x.fault(), 1);
        }
        SilenceCoin y = new SilenceCoin();
        y.feed(0x6c617720323b6665L);
        y.feed(0x6520393b20202020L);
        due("law 2;fe + e 9;", y.text(), 2);
        due("law", y.rule(3), 2);
        due("fee", y.rule(4), 9);
    }

    private static void feedFull() {
        Check.says("2: FULL: more than 320.");
        for (int cut = 0; cut <= 8; cut++) {
            SilenceCoin x = new SilenceCoin();
            for (int i = 1; i <= 40; i++) {
                due("feed " + i, x.feed(0x2020202020202020L), 8 * i);
            }
            x.end(320 - cut);
            boolean isTaken = cut == 8;
            due("feed at " + (320 - cut), x.feed(Long.MIN_VALUE), isTaken ? 320 : Check.FULL);
            due("bytes", x.count(4), isTaken ? 320 : 320 - cut);
            due("text", x.text(), isTaken ? -10 - 312 : 0);
        }
        SilenceCoin y = new SilenceCoin();
        for (int i = 0; i < 40; i++) {
            y.feed(0x2020202020202020L);
        }
        for (long v : new long[] {Long.MIN_VALUE, Long.MAX_VALUE, 0, -1}) {
            due("feed " + v, y.feed(v), Check.FULL);
        }
        due("text of 320 blanks", y.text(), 0);
        due("feed behind it", y.feed(0), 8);
    }

    private static void endEdges() {
        Check.says("3: THE TAPE keeps its first n bytes: how many it had. BAD.");
        SilenceCoin empty = new SilenceCoin();
        due("end(0) of nothing", empty.end(0), 0);
        for (int n : Check.outside(0, 0)) {
            due("end " + n + " of nothing", empty.end(n), Check.BAD);
        }
        Check.Make full = () -> {
            SilenceCoin x = new SilenceCoin();
            Check.put(x, "law 1;" + blanks(314));
            return x;
        };
        Check.bounds("end of 320", full, 0, 320, SilenceCoin::end);
        for (int n : new int[] {0, 5, 6, 319, 320}) {
            SilenceCoin x = full.make();
            due("end " + n, x.end(n), 320);
            due("bytes", x.count(4), n);
            due("end again", x.end(n), n);
            due("end beyond", x.end(n + 1), Check.BAD);
            due("bytes", x.count(4), n);
            due("text", x.text(), n == 0 ? 0 : n == 5 ? -15 : 1);
        }
        SilenceCoin y = full.make();
        y.end(4);
        due("what was cut is gone", y.feed(0x323b202020202020L), 12);
        due("law 2;", y.text(), 1);
        due("law", y.rule(3), 2);
    }

    private static void tapePlaces() {
        Check.says("Terms: THE TAPE has 320 bytes, places from 0.");
        faulty("#" + blanks(319), 1, 0);
        faulty(blanks(1) + "#" + blanks(318), 1, 1);
        faulty(blanks(318) + "#" + blanks(1), 1, 318);
        faulty(blanks(319) + "#", 1, 319);
        faulty(blanks(319) + ";", 2, 319);
        faulty("law 1" + blanks(315), 2, 320);
        faulty(blanks(317) + "law", 2, 320);
        faulty(blanks(314) + "law 3;", 3, 318);
        faulty("coin 1 0;" + blanks(311), 6, 320);
        taken(blanks(314) + "law 1;", 1);
        taken("law 1;" + blanks(314), 1);
        taken(blanks(320), 0);
    }

    private static void signs() {
        Check.says("Terms: NAMES (a .. z), NUMBERS, one ; . 1 no TOKEN");
        for (int b = 0; b < 256; b++) {
            boolean isLetter = b >= 'a' && b <= 'z';
            boolean isFigure = b >= '0' && b <= '9';
            int place = 8;
            String text = "fee 2 ; " + (char) b;
            if (b == ' ') {
                taken(text, 1);
            } else {
                faulty(text, isLetter || isFigure || b == ';' ? 2 : 1, place);
            }
        }
        // a sign behind a name ends it, unless it is a letter
        faulty("lawa", 2, 0);
        faulty("lawz", 2, 0);
        faulty("law`", 1, 3);
        faulty("law{", 1, 3);
        faulty("lawA", 1, 3);
        faulty("LAW 1;", 1, 0);
        faulty("law\u0001 1;", 1, 3);
        faulty("law\t1;", 1, 3);
        faulty("law\n1;", 1, 3);
        faulty("law 1\u003a", 1, 5);
        faulty("law 1/", 1, 5);
        faulty("law 1;\u0000", 1, 6);
        faulty("law 1;\u007f", 1, 6);
        faulty("law 1;\u0080", 1, 6);
        faulty("law 1;\u00a0", 1, 6);
        faulty("law 1;\u00ff", 1, 6);
        // letters and figures cut to seven bits would be ones
        faulty("\u00ecaw 1;", 1, 0);
        faulty("law \u00b1;", 1, 4);
        faulty("law 1\u00bb", 1, 5);
        faulty("law 1;\u00a0\u00a0", 1, 6);
        faulty("law -1;", 1, 4);
        faulty("law +1;", 1, 4);
        faulty("law 1.", 1, 5);
        faulty("law 1,", 1, 5);
    }

    private static void figures() {
        Check.says("Terms: NUMBERS (1 or 2 figures); 1 a NUMBER that is too long (its first byte).");
        due("one figure", taken("fee 0;", 1).rule(4), 0);
        due("one figure", taken("fee 9;", 1).rule(4), 9);
        due("two figures", taken("fee 00;", 1).rule(4), 0);
        due("two figures", taken("fee 09;", 1).rule(4), 9);
        due("two figures", taken("one plain 09 50;", 1).one(0, 2), 50);
        faulty("fee 000;", 1, 4);
        faulty("fee 001;", 1, 4);
        faulty("fee 100;", 1, 4);
        faulty("fee  0000000000000000000000001;", 1, 5);
        faulty("fee 99999999999999999999999999;", 1, 4);
        faulty("fee 4294967297;", 1, 4);
        faulty("fee 2147483648", 1, 4);
        faulty("fee" + Check.many("1", 317), 1, 3);
        faulty("one plain 001 1;", 1, 10);
        faulty("one plain 1 001;", 1, 12);
        faulty("one 111;", 1, 4);
        faulty("111;", 1, 0);
        faulty("fee 1 111", 1, 6);
        faulty("fee 1111;", 1, 4);
        Check.says("Terms: TOKENS, each as long as may be");
        faulty("fee 1 1;", 2, 6);
        faulty("fee 0 9;", 2, 6);
        faulty("fee 10;", 3, 4);
        faulty("lawfee 1;", 2, 0);
        faulty("oneplain 1 1;", 2, 0);
        faulty("one plaindeaf 1 1;", 2, 4);
        faulty("la w 1;", 2, 0);
        faulty("law 1;;", 2, 6);
    }

    private static void blanksBetween() {
        Check.says("Terms: blanks (32) between");
        taken("law1;fee1;one deaf1 1;one plain0 0;coin1 0clipped;spend0 0;talk0 0 1;", 7);
        taken("   law   1   ;   fee   1   ;   ", 2);
        due("law2;", taken("law2;", 1).rule(3), 2);
        due("clipped behind a figure", taken("one deaf 1 1;coin 3 0clipped;", 2).coin(0, 2), 1);
    }

    private static void linesNoneAndAll() {
        Check.says("Terms: text: { line }. 4: how many lines");
        SilenceCoin none = taken("", 0);
        int[] rules = {0, 0, 0, 0, 1};
        for (int w = 0; w < 5; w++) {
            due("rule " + w + " of no lines", none.rule(w), rules[w]);
        }
        StringBuilder b = new StringBuilder();
        for (int c = 0; c < 6; c++) {
            b.append("spend").append(c).append(' ').append(c * 2).append(';');
        }
        for (int k = 0; k < 10; k++) {
            b.append("talk").append(k + 2).append(' ').append(k % 6).append(' ').append((k + 1) % 6).append(';');
        }
        b.append("law0;fee0;").append(Check.many("coin3 5;", 6)).append(Check.many("one deaf9 50;", 6));
        b.append(blanks(320 - b.length()));
        SilenceCoin all = taken(b.toString(), 30);
        int[] most = {6, 6, 10, 0, 0};
        for (int w = 0; w < 5; w++) {
            due("rule " + w + " of 30 lines", all.rule(w), most[w]);
        }
        due("the last coin", all.coin(5, 3), 10);
        due("the last talk", all.talk(9, 0), 11);
        due("the last one", all.one(5, 2), 50);
        due("all spent", all.count(0), 6);
    }

    private static void boundsOf(String ahead, String behind, int low, int high, String rest) {
        for (int v = low; v <= high; v++) {
            taken(ahead + v + behind + rest, 1 + lines(rest));
        }
        for (int v : new int[] {low - 1, high + 1, 99}) {
            if (v >= 0) {
                faulty(ahead + v + behind + rest, 3, ahead.length());
                faulty(ahead + v, 3, ahead.length());
                faulty(ahead + v + "#", 3, ahead.length());
                faulty(ahead + v + " 000", 3, ahead.length());
            }
        }
    }

    private static int lines(String text) {
        return (int) text.chars().filter(c -> c == ';').count();
    }

    private static void boundsOfNumbers() {
        String people = Check.many("one deaf 0 0;", 6);
        String coins = Check.many("coin 1 0;", 6) + people;
        Check.says("Terms: LAW (0 to 2). 3 a NUMBER out of its bounds.");
        boundsOf("law ", ";", 0, 2, "");
        Check.says("Terms: FEE (0 to 9). 3 a NUMBER out of its bounds.");
        boundsOf("fee ", ";", 0, 9, "");
        Check.says("Terms: WISH (0 to 9). 3 a NUMBER out of its bounds.");
        boundsOf("one plain ", " 0;", 0, 9, "");
        Check.says("Terms: PURSE (0 to 50). 3 a NUMBER out of its bounds.");
        boundsOf("one plain 0 ", ";", 0, 50, "");
        Check.says("Terms: WORTH (1 to 3). 3 a NUMBER out of its bounds.");
        boundsOf("coin ", " 0;", 1, 3, people);
        Check.says("Terms: coin: OWNER (0 to 5). 3 a NUMBER out of its bounds.");
        boundsOf("coin 1 ", ";", 0, 5, people);
        Check.says("Terms: spend: a COIN (0 to 5). 3 a NUMBER out of its bounds.");
        boundsOf("spend ", " 0;", 0, 5, coins);
        Check.says("Terms: spend: the HOUR. HOURS 0 to 11. 3 a NUMBER out of its bounds.");
        boundsOf("spend 0 ", ";", 0, 11, coins);
        Check.says("Terms: talk: HOUR. HOURS 0 to 11. 3 a NUMBER out of its bounds.");
        boundsOf("talk ", " 0 1;", 0, 11, people);
        Check.says("Terms: talk: who, to whom (0 to 5). 3 a NUMBER out of its bounds.");
        for (int p = 0; p < 6; p++) {
            for (int q = 0; q < 6; q++) {
                if (p != q) {
                    taken("talk 0 " + p + " " + q + ";" + people, 7);
                }
            }
            for (String out : new String[] {"6", "06", "7", "10", "99"}) {
                faulty("talk 0 " + out + " " + p + ";" + people, 3, 7);
                faulty("talk 0 " + p + " " + out + ";" + people, 3, 9);
            }
        }
    }

    private static void whatMayNotStand() {
        Check.says("Terms: 2 a TOKEN that can not stand there (a NAME that begins no line)");
        for (String name : new String[] {"a", "z", "la", "laws", "awl", "fe", "feed", "on", "ones", "coi", "coins",
            "spen", "spends", "tal", "talks", "plain", "gossip", "deaf", "beggar", "taxman", "clipped", "end"}) {
            faulty(name + " 1;", 2, 0);
            faulty("law 1;" + name, 2, 6);
        }
        faulty(";", 2, 0);
        faulty("1", 2, 0);
        faulty("99", 2, 0);
        for (String name : new String[] {"law", "fee", "one", "coin", "spend", "talk"}) {
            for (String other : almost(name)) {
                faulty(other + " 1 1 1;", 2, 0);
            }
        }
        Check.says("Terms: 2 a NAME that is no K");
        for (String kind : KINDS) {
            for (String other : almost(kind)) {
                faulty("one " + other + " 1 1;", 2, 4);
            }
        }
        for (String name : new String[] {"p", "plai", "plains", "gossi", "gossips", "dea", "deaff", "begga", "beggars",
            "taxma", "taxmann", "one", "law", "clipped", "king"}) {
            faulty("one " + name + " 1 1;", 2, 4);
        }
        faulty("one 1 1 1;", 2, 4);
        faulty("one;", 2, 3);
        for (int k = 0; k < 5; k++) {
            due(KINDS[k], taken("one " + KINDS[k] + " 0 0;", 1).one(0, 0), k);
        }
        Check.says("Terms: 2 a NAME that is not clipped");
        for (String other : almost("clipped")) {
            faulty("coin 1 0 " + other + ";", 2, 9);
        }
        for (String name : new String[] {"c", "clip", "clippe", "clippedd", "coin", "law", "plain"}) {
            faulty("coin 1 0 " + name + ";", 2, 9);
        }
        faulty("coin 1 0 1;", 2, 9);
        faulty("coin 1 0 clipped clipped;", 2, 17);
        faulty("coin 1 clipped;", 2, 7);
        faulty("coin clipped;", 2, 5);
        faulty("one plain 1 1 clipped;", 2, 14);
        Check.says("Terms: line: law N ; | fee N ; | one K N N ; | coin N N ; | spend N N ; | talk N N N ;");
        String[][] lines = {{"law", "1"}, {"fee", "1"}, {"one", "deaf", "1", "1"}, {"coin", "1", "0"},
            {"spend", "1", "0"}, {"talk", "1", "0", "1"}};
        for (String[] line : lines) {
            StringBuilder b = new StringBuilder(line[0]);
            for (int i = 1; i < line.length; i++) {
                faulty(b + " ;", 2, b.length() + 1);
                faulty(b + " law", 2, b.length() + 1);
                b.append(' ').append(line[i]);
            }
            faulty(b + " 1;", 2, b.length() + 1);
            faulty(b + " law;", 2, b.length() + 1);
        }
    }

    /** The name with another letter in each place, with one less and with one more. */
    private static List<String> almost(String name) {
        List<String> others = new ArrayList<>();
        for (int i = 0; i < name.length(); i++) {
            char other = name.charAt(i) == 'z' ? 'a' : (char) (name.charAt(i) + 1);
            others.add(name.substring(0, i) + other + name.substring(i + 1));
            others.add(name.substring(0, i) + name.substring(i + 1));
            others.add(name.substring(0, i) + "e" + name.substring(i));
        }
        others.add(name + "e");
        others.add(name + name);
        return others;
    }

    private static void ends() {
        Check.says("Terms: 2 .. or the end: the length");
        String[][] lines = {{"law", "1", ";"}, {"fee", "1", ";"}, {"one", "deaf", "1", "1", ";"},
            {"coin", "1", "0", "clipped", ";"}, {"spend", "1", "0", ";"}, {"talk", "1", "0", "1", ";"}};
        for (String[] line : lines) {
            StringBuilder b = new StringBuilder();
            for (int i = 0; i < line.length - 1; i++) {
                b.append(i == 0 ? "" : " ").append(line[i]);
                faulty(b.toString(), 2, b.length());
                faulty(b + " ", 2, b.length() + 1);
                faulty(b + blanks(320 - b.length()), 2, 320);
            }
        }
        faulty("coin 1 0", 2, 8);
    }

    private static void secondTimes() {
        Check.says("Terms: 4 law, fee for the second time (its NAME)");
        faulty("law 1;law 1;", 4, 6);
        faulty("law 1;law", 4, 6);
        faulty("law 1;  law#", 4, 8);
        faulty("law 0;fee 0;law 0;", 4, 12);
        faulty("fee 1;fee 1;", 4, 6);
        faulty("fee 1;fee", 4, 6);
        faulty("fee 0;law 0;fee 99", 4, 12);
        taken("fee 1;law 1;", 2);
        Check.says("Terms: 4 a COIN that is SPENT already (it)");
        for (int c = 0; c < 6; c++) {
            faulty("spend " + c + " 0;spend " + c + " 0;", 4, 16);
            faulty("spend " + c + " 11;spend " + c + " 99;", 4, 17);
            faulty("spend " + c + " 11;spend 0" + c, 4, 17);
            int other = (c + 1) % 6;
            taken("one plain 0 0;" + Check.many("coin 1 0;", 6) + "spend " + c + " 0;spend " + other + " 0;", 9);
        }
        Check.says("Terms: 4 one who talks to himself (the second ONE)");
        for (int p = 0; p < 6; p++) {
            faulty("talk 0 " + p + " " + p + ";", 4, 9);
            faulty("talk 0 " + p + " 0" + p + "#", 4, 9);
        }
        faulty("talk 0 6 6;", 3, 7);
    }

    private static void tooMany() {
        String ones = Check.many("one deaf 0 0;", 6);
        String coins = Check.many("coin 1 0;", 6);
        String talks = Check.many("talk 0 0 1;", 10);
        Check.says("Terms: 5 the 7th one (its NAME)");
        due("six", taken(ones, 6).rule(0), 6);
        faulty(ones + "one deaf 0 0;", 5, 78);
        faulty(ones + "one", 5, 78);
        faulty(ones + " one #", 5, 79);
        faulty(ones + "ones", 2, 78);
        Check.says("Terms: 5 the 7th coin (its NAME)");
        due("six", taken(ones + coins, 12).rule(1), 6);
        faulty(coins + "coin 1 0;", 5, 54);
        faulty(coins + "coin", 5, 54);
        faulty(coins + " coin #", 5, 55);
        Check.says("Terms: 5 the 11th talk (its NAME)");
        due("ten", taken(ones + talks, 16).rule(2), 10);
        faulty(talks + "talk 0 0 1;", 5, 110);
        faulty(talks + "talk", 5, 110);
        faulty(talks + " talk #", 5, 111);
        faulty(talks + coins + "one deaf 0 0;coin 1 0;", 5, 177);
    }

    private static void behindAll() {
        String five = Check.many("one deaf 0 0;", 5);
        Check.says("Terms: Behind all (the length): 6 a ONE that there is not.");
        taken("coin 1 4;" + five, 6);
        faulty("coin 1 5;" + five, 6, 74);
        taken("talk 0 4 0;" + five, 6);
        faulty("talk 0 5 0;" + five, 6, 76);
        faulty("talk 0 0 5;" + five, 6, 76);
        faulty("coin 1 0;", 6, 9);
        faulty("coin 1 0;   ", 6, 12);
        faulty("one deaf 0 0;talk 0 0 1;", 6, 24);
        faulty("talk 0 0 1;", 6, 11);
        // the last of all coins and talks is looked at, too
        faulty(five + Check.many("coin 1 0;", 5) + "coin 1 5;", 6, 65 + 54);
        faulty(five + Check.many("talk 0 0 1;", 9) + "talk 0 0 5;", 6, 65 + 110);
        faulty(five + Check.many("talk 0 0 1;", 9) + "talk 0 5 0;", 6, 65 + 110);
        Check.says("Terms: Behind all (the length): 6 a COIN that there is not.");
        taken("spend 4 0;" + five + Check.many("coin 1 0;", 5), 11);
        faulty("spend 5 0;" + five + Check.many("coin 1 0;", 5), 6, 10 + 65 + 45);
        faulty("spend 0 0;", 6, 10);
        faulty("spend 5 11; ", 6, 12);
        taken("spend 0 0;coin 1 0;one deaf 0 0;", 3);
    }

    private static void firstMet() {
        Check.says("Terms: FAULTS, the first met as it is read (a TOKEN is read when the one before has been taken)");
        faulty("law 3#", 3, 4);
        faulty("law 3 000;", 3, 4);
        faulty("law 1#law 1;", 1, 5);
        faulty("laws#", 2, 0);
        faulty("coin 1 0;#", 1, 9);
        faulty("coin 1 0;law 3;", 3, 13);
        faulty("coin 1 0;law 1;law 1;", 4, 15);
        faulty("spend 0 0;talk 0 1 1;", 4, 19);
        faulty("one king 000 000;", 2, 4);
        faulty("one deaf 10 51;", 3, 9);
        faulty("one deaf 9 51#", 3, 11);
        faulty("coin 4 6;", 3, 5);
        faulty("coin 3 6 cut", 3, 7);
        faulty("spend 6 12;", 3, 6);
        faulty("spend 5 12#", 3, 8);
        faulty("talk 12 6 6;", 3, 5);
        faulty("talk 11 6 6;", 3, 8);
        faulty("talk 11 5 5", 4, 10);
        faulty("talk 11 5 6#", 3, 10);
        for (String[] line : new String[][] {{"law", "1", ";"}, {"fee", "1", ";"}, {"one", "deaf", "1", "1", ";"},
            {"coin", "1", "0", "clipped", ";"}, {"coin", "1", "0", ";"}, {"spend", "1", "0", ";"},
            {"talk", "1", "0", "1", ";"}}) {
            StringBuilder b = new StringBuilder();
            for (String token : line) {
                faulty(b + "#;", 1, b.length());
                faulty(b + "000;", 1, b.length());
                faulty(b + "# ;coin 1 0;", 1, b.length());
                b.append(token).append(' ');
            }
        }
        faulty("law 1;law 3#", 4, 6);
        faulty(Check.many("one deaf 0 0;", 6) + "one king 99 99#", 5, 78);
    }

    private static void inPlaceOfWhatThereWas() {
        Check.says("Terms: A text that is taken tells all, in place of what there was; nothing is KNOWN, TESTED; IMAGES are gone.");
        for (String text : new String[] {"", " ", "law 0;"}) {
            SilenceCoin x = taken(text, text.length() / 6);
            int[] rules = {0, 0, 0, 0, 1};
            for (int w = 0; w < 5; w++) {
                due("rule " + w, x.rule(w), rules[w]);
            }
            int[] counts = {0, 0, 0, 0, 0, 7, 0};
            for (int w = 0; w < 7; w++) {
                due("count " + w, x.count(w), counts[w]);
            }
            due("image 0", x.back(0), Check.STATE);
            due("image 1", x.back(1), Check.STATE);
            due("keep 0", x.keep(0), 0);
            due("keep 1", x.keep(1), 0);
            due("one 0", x.one(0, 0), Check.BAD);
            due("coin 0", x.coin(0, 0), Check.BAD);
            due("talk 0", x.talk(0, 0), Check.BAD);
            due("forget", x.forget(1), Check.BAD);
            due("untest", x.untest(1), Check.BAD);
        }
        SilenceCoin y = taken("one beggar 3 4;one plain 5 6;coin 1 0;talk 0 1 0;", 4);
        due("not clipped", y.coin(0, 2), 0);
        due("not spent", y.coin(0, 3), Check.NONE);
        due("worth", y.coin(0, 0), 1);
        due("owner", y.coin(0, 1), 0);
        due("length by a beggar", y.coin(0, 4), 2);
        due("law", y.rule(3), 0);
        due("fee", y.rule(4), 1);
        due("talk", y.talk(0, 1), 1);
        due("known by nothing", y.first(), 3);
        due("tested by nothing", y.fakes(1, 0), 1);
    }

    private static void nothingIsLeftOver() {
        Check.says("4: that which was told stays: nothing of a refused text is left over for the next one");
        String[] faulties = {"law 1;#", "fee 2;#", "spend 0 3;#", "spend 5 3;#", Check.many("one deaf 0 0;", 6) + "#",
            Check.many("coin 3 5clipped;", 6) + "#", Check.many("talk 0 4 5;", 10) + "#", "coin 2 0 clipped;spend 0 1;"};
        for (String text : faulties) {
            SilenceCoin x = told();
            Check.put(x, text);
            due("text " + text, x.text() < 0 ? 1 : 0, 1);
            stays(text, x);
            Check.put(x, "one plain 1 2;coin 3 0;");
            due("text behind " + text, x.text(), 2);
            int[] rules = {1, 1, 0, 0, 1};
            for (int w = 0; w < 5; w++) {
                due("rule " + w + " behind " + text, x.rule(w), rules[w]);
            }
            due("not clipped behind " + text, x.coin(0, 2), 0);
            due("not spent behind " + text, x.coin(0, 3), Check.NONE);
            Check.put(x, "law 2;fee 3;one plain 1 2;coin 3 0;spend 0 0;");
            due("text behind both", x.text(), 5);
        }
    }

    private static void emptyThen() {
        Check.says("4: THE TAPE (empty then); what is refused changes nothing (but THE TAPE, as told)");
        for (String text : new String[] {"", "law 1;", "#", "law", "coin 1 0;", Check.many("#", 320), blanks(320)}) {
            SilenceCoin x = new SilenceCoin();
            Check.put(x, text);
            x.text();
            due("bytes behind " + text, x.count(4), 0);
            due("end behind " + text, x.end(0), 0);
            due("text again", x.text(), 0);
            due("fault", x.fault(), 0);
            due("feed behind it", x.feed(0x6c617720323b2020L), 8);
            due("law 2;", x.text(), 1);
            due("law", x.rule(3), 2);
        }
    }

    private static void latestFault() {
        Check.says("5: The FAULT of the latest text(); 0.");
        SilenceCoin x = new SilenceCoin();
        due("none yet", x.fault(), 0);
        String[] texts = {"#", ";", "law 3;", "talk 0 1 1;", Check.many("one deaf 0 0;", 7), "coin 1 0;", "law 1;"};
        for (int i = 0; i < texts.length; i++) {
            int before = x.fault();
            Check.put(x, texts[i]);
            due("ahead of text()", x.fault(), before);
            x.text();
            due("fault of " + texts[i], x.fault(), i < 6 ? i + 1 : 0);
            due("asked again", x.fault(), i < 6 ? i + 1 : 0);
        }
        Check.put(x, "#");
        x.text();
        due("1", x.fault(), 1);
        x.end(1);
        x.law(9);
        x.sheet(0, 0, -1);
        x.read(1, 0, 0, 1);
        due("of text() alone", x.fault(), 1);
        x.text();
        due("an empty one", x.fault(), 0);
    }
}
