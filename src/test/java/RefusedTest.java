import java.util.ArrayList;
import java.util.List;

/**
 * What the Terms say of answers: the first that fits; what is refused changes nothing. Each refused call
 * is made where there is nothing, where there is something and where there is all that there may be, and
 * all that can be seen is held against what is seen without it.
 */
public final class RefusedTest {
    private static final int BAD = Check.BAD, STATE = Check.STATE, FULL = Check.FULL, NONE = Check.NONE;
    private static final int LOW = Check.LOW, HIGH = Check.HIGH;

    record Asked(String name, Check.Call call, int want) { }

    private static final List<Asked> calls = new ArrayList<>();

    private static void add(String name, int want, Check.Call call) {
        calls.add(new Asked(name, call, want));
    }

    private static SilenceCoin nothing() {
        return new SilenceCoin();
    }

    /** Two ones, two coins of which one is spent, a talk; one of all else. */
    private static SilenceCoin something() {
        SilenceCoin x = Check.of("law 2;fee 4;one plain 5 9;one beggar 3 7;coin 2 0;coin 3 1clipped;spend 1 3;talk 4 0 1;");
        x.hear(1, true);
        x.test(2, true);
        x.keep(1);
        x.speak(11, 1, 0);
        x.sheet(0, 2, 4);
        for (int i = 0; i < 4; i++) {
            x.lay(0, i, new int[] {7, 1, 0, 5}[i]);
        }
        x.read(0, 2, 2, 1);
        Check.put(x, "law 3;");
        x.text();
        Check.put(x, "law 1;one deaf 1 1;");
        return x;
    }

    /** Six ones, six coins, ten talks, six known, eight tested, both images, a full tape, sheets of each lane. */
    private static SilenceCoin all() {
        SilenceCoin x = Check.of("law 1;fee 3;one plain 3 20;one gossip 2 30;one deaf 9 50;one beggar 5 8;one taxman 0 40;"
            + "one plain 1 1;coin 2 0;coin 3 1clipped;coin 1 2;coin 3 3;coin 1 0clipped;coin 2 5;spend 1 3;spend 4 4;"
            + "talk 2 0 1;talk 4 1 3;talk 5 3 2;talk 5 3 1;talk 4 4 0;talk 9 2 0;talk 11 5 4;talk 0 1 5;");
        x.keep(0);
        x.law(2);
        x.spend(0, 11);
        x.speak(1, 4, 5);
        x.speak(10, 5, 3);
        x.keep(1);
        x.fee(9);
        x.clip(2);
        int[] knowers = {1, 5, 0, 2, 3, 4};
        for (int i = 0; i < 6; i++) {
            x.hear(knowers[i], i < 2);
        }
        int[] tested = {63, 62, 60, 3, 1, 16, 48, 32};
        for (int i = 0; i < 8; i++) {
            x.test(tested[i], i < 4);
        }
        int[] cells = {40, 9, 3};
        for (int k = 0; k < 3; k++) {
            x.sheet(k, k, cells[k]);
            for (int i = 0; i < cells[k]; i++) {
                x.lay(k, i, i % 3 == 0 ? (i + k) % 12 : (i + k) % 6);
            }
        }
        x.read(2, 1, 0, 1);
        String told = "fee 8;one deaf 7 6;one taxman 5 4;coin 3 1;talk 6 1 0;";
        Check.put(x, told + " ".repeat(320 - told.length()));
        return x;
    }

    public static void main(String[] args) {
        bothWhere("nothing", RefusedTest::nothing, RefusedTest::refusedByNothing);
        bothWhere("something", RefusedTest::something, RefusedTest::refusedBySomething);
        bothWhere("all", RefusedTest::all, RefusedTest::refusedByAll);
        Check.close();
    }

    private static void bothWhere(String where, Check.Make make, Runnable refusals) {
        String before = State.behind(make, x -> 0);
        Check.says("Terms: what is refused changes nothing; where there is " + where);
        calls.clear();
        refusals.run();
        badNumbers();
        for (Asked a : calls) {
            Check.due(a.name, a.call.on(make.make()), a.want);
            Check.same(a.name, State.behind(make, a.call), before);
        }
        Check.says("what is only asked changes nothing; where there is " + where);
        calls.clear();
        questions();
        for (Asked a : calls) {
            Check.same(a.name, State.behind(make, a.call), before);
        }
    }

    private static void refusedByNothing() {
        add("end(1)", BAD, x -> x.end(1));
        add("give(0, 0)", BAD, x -> x.give(0, 0));
        add("clip(0)", BAD, x -> x.clip(0));
        add("spend(0, 0)", BAD, x -> x.spend(0, 0));
        add("undo(0)", BAD, x -> x.undo(0));
        add("speak(0, 0, 1)", BAD, x -> x.speak(0, 0, 1));
        add("may(0, 0, 1)", BAD, x -> x.may(0, 0, 1));
        add("knows(0, 0)", BAD, x -> x.knows(0, 0));
        add("learns(0, 0)", BAD, x -> x.learns(0, 0));
        add("hush(0, 1, 0)", BAD, x -> x.hush(0, 1, 0));
        add("hear(0)", BAD, x -> x.hear(0, true));
        add("forget(1)", BAD, x -> x.forget(1));
        add("funeral(1, 1, 0)", BAD, x -> x.funeral(1, 1, 0));
        add("funeral(0, 1, 10)", BAD, x -> x.funeral(0, 1, 10));
        add("test(0)", BAD, x -> x.test(0, true));
        add("test(1)", BAD, x -> x.test(1, true));
        add("untest(1)", BAD, x -> x.untest(1));
        add("fakes(1, 1)", NONE, x -> x.fakes(1, 1));
        add("fakes(3, 2)", NONE, x -> x.fakes(3, 2));
        add("fakes(2, 3)", NONE, x -> x.fakes(2, 3));
        add("next(0, 0)", NONE, x -> x.next(0, 0));
        add("next(3, 1)", NONE, x -> x.next(3, 1));
        add("chatter(0, 1)", STATE, x -> x.chatter(0, 1));
        add("chatter(0, 0)", BAD, x -> x.chatter(0, 0));
        add("chatter(0, 61)", BAD, x -> x.chatter(0, 61));
        for (int k = 0; k < 2; k++) {
            int i = k;
            add("back " + i, STATE, x -> x.back(i));
        }
        for (int k = 0; k < 4; k++) {
            int i = k;
            add("lay on " + i, -11, x -> x.lay(i, 0, 1));
            add("lay on " + i + " below", -11, x -> x.lay(i, -1, 1));
        }
    }

    private static void refusedBySomething() {
        add("end(20)", BAD, x -> x.end(20));
        add("give(0, 2)", BAD, x -> x.give(0, 2));
        add("give(2, 0)", BAD, x -> x.give(2, 0));
        add("give(1, 0)", STATE, x -> x.give(1, 0));
        add("give(1, 1)", STATE, x -> x.give(1, 1));
        add("give(1, 2)", BAD, x -> x.give(1, 2));
        add("spend(1, 0)", STATE, x -> x.spend(1, 0));
        add("spend(1, 3)", STATE, x -> x.spend(1, 3));
        add("spend(1, 12)", BAD, x -> x.spend(1, 12));
        add("spend(0, 12)", BAD, x -> x.spend(0, 12));
        add("spend(2, 0)", BAD, x -> x.spend(2, 0));
        add("undo(2)", BAD, x -> x.undo(2));
        add("undo(0)", NONE, x -> x.undo(0));
        add("clip(2)", BAD, x -> x.clip(2));
        add("clip(1)", 0, x -> x.clip(1));
        add("speak(0, 0, 0)", BAD, x -> x.speak(0, 0, 0));
        add("speak(0, 0, 2)", BAD, x -> x.speak(0, 0, 2));
        add("speak(12, 0, 1)", BAD, x -> x.speak(12, 0, 1));
        add("hear(2)", BAD, x -> x.hear(2, true));
        add("forget(2)", BAD, x -> x.forget(2));
        add("test(0)", BAD, x -> x.test(0, true));
        add("test(4)", BAD, x -> x.test(4, true));
        add("untest(2)", BAD, x -> x.untest(2));
        add("back(0)", STATE, x -> x.back(0));
        add("sheet(0, 2, -1)", -14, x -> x.sheet(0, 2, -1));
        add("sheet(0, 0, LOW)", -14, x -> x.sheet(0, 0, LOW));
        add("sheet(1, 0, -1)", -14, x -> x.sheet(1, 0, -1));
        add("sheet(0, 2, 41)", BAD, x -> x.sheet(0, 2, 41));
        add("sheet(0, 3, 1)", BAD, x -> x.sheet(0, 3, 1));
        add("lay(0, 4)", -12, x -> x.lay(0, 4, 1));
        add("lay(0, -1)", -12, x -> x.lay(0, -1, 1));
        add("lay(1, 0)", -11, x -> x.lay(1, 0, 1));
        // the cells are 7 1 0 5; the read of the object's making was torn by the index
        add("read from 1", -20, x -> x.read(0, 2, 1, 1));
        add("read from 1, 13 talks", -20, x -> x.read(0, 2, 1, 13));
        add("read, n 14", BAD, x -> x.read(0, 2, 0, 14));
        add("read, n -1", BAD, x -> x.read(0, 2, 0, -1));
        add("hush(0, 1, 0)", STATE, x -> x.hush(0, 1, 0));
        add("hush(0, 1, 1)", STATE, x -> x.hush(0, 1, 1));
        add("funeral(3, 12, 0)", NONE, x -> x.funeral(3, 12, 0));
        add("funeral(3, 12, 11)", NONE, x -> x.funeral(3, 12, 11));
    }

    private static void refusedByAll() {
        add("feed", FULL, x -> x.feed(0));
        add("feed lowest", FULL, x -> x.feed(Long.MIN_VALUE));
        add("feed highest", FULL, x -> x.feed(Long.MAX_VALUE));
        add("end(321)", BAD, x -> x.end(321));
        for (int c : new int[] {0, 1, 4}) {
            for (int p : new int[] {0, 5}) {
                add("give a spent one " + c + " to " + p, STATE, x -> x.give(c, p));
            }
            add("spend a spent one " + c, STATE, x -> x.spend(c, 0));
            add("spend a spent one " + c, STATE, x -> x.spend(c, 11));
        }
        add("speak", FULL, x -> x.speak(0, 0, 1));
        add("speak at last", FULL, x -> x.speak(11, 5, 4));
        add("speak alike", BAD, x -> x.speak(0, 5, 5));
        add("speak in no hour", BAD, x -> x.speak(12, 0, 1));
        add("hear", FULL, x -> x.hear(0, true));
        add("hear", FULL, x -> x.hear(5, false));
        add("hear nobody", BAD, x -> x.hear(6, false));
        add("forget(7)", BAD, x -> x.forget(7));
        add("test", FULL, x -> x.test(1, true));
        add("test", FULL, x -> x.test(63, false));
        add("test of no coin", BAD, x -> x.test(0, false));
        add("test of 64", BAD, x -> x.test(64, false));
        add("untest(9)", BAD, x -> x.untest(9));
        add("read when full", -20, x -> x.read(2, 2, 0, 1));
        add("read when full", -20, x -> x.read(0, 0, 0, 13));
        add("lay(0, 40)", -12, x -> x.lay(0, 40, 1));
        add("lay(1, 9)", -12, x -> x.lay(1, 9, 1));
        add("lay(2, 3)", -12, x -> x.lay(2, 3, 1));
        add("lay(3, 0)", -11, x -> x.lay(3, 0, 1));
        for (int k = 0; k < 4; k++) {
            int i = k;
            add("sheet below 0", -14, x -> x.sheet(i, 2 - i % 3, -1));
            add("sheet above 40", BAD, x -> x.sheet(i, 2 - i % 3, 41));
        }
    }

    /** Numbers that are never as told, whatever there is. */
    private static void badNumbers() {
        for (int v : new int[] {-1, 6, 32, LOW, HIGH}) {
            add("one " + v, BAD, x -> x.one(v, 0));
            add("coin " + v, BAD, x -> x.coin(v, 0));
            add("give " + v, BAD, x -> x.give(v, 0));
            add("give to " + v, BAD, x -> x.give(0, v));
            add("clip " + v, BAD, x -> x.clip(v));
            add("spend " + v, BAD, x -> x.spend(v, 0));
            add("undo " + v, BAD, x -> x.undo(v));
            add("speak by " + v, BAD, x -> x.speak(0, v, 0));
            add("speak to " + v, BAD, x -> x.speak(0, 0, v));
            add("quiet " + v, BAD, x -> x.quiet(v));
            add("hear " + v, BAD, x -> x.hear(v, true));
        }
        for (int v : new int[] {-1, 12, LOW, HIGH}) {
            add("spend in " + v, BAD, x -> x.spend(0, v));
            add("speak in " + v, BAD, x -> x.speak(v, 0, 1));
            add("silent " + v, BAD, x -> x.silent(v));
        }
        for (int v : new int[] {-1, 3, LOW, HIGH}) {
            add("law " + v, BAD, x -> x.law(v));
        }
        for (int v : new int[] {-1, 10, LOW, HIGH}) {
            add("fee " + v, BAD, x -> x.fee(v));
        }
        for (int v : new int[] {-1, 321, LOW, HIGH}) {
            add("end " + v, BAD, x -> x.end(v));
        }
        for (int v : new int[] {-1, 7, LOW, HIGH}) {
            add("forget " + v, BAD, x -> x.forget(v));
        }
        for (int v : new int[] {-1, 9, LOW, HIGH}) {
            add("untest " + v, BAD, x -> x.untest(v));
        }
        for (int v : new int[] {-1, 0, 64, LOW, HIGH}) {
            add("test " + v, BAD, x -> x.test(v, true));
        }
        for (int v : new int[] {-1, 2, LOW, HIGH}) {
            add("keep " + v, BAD, x -> x.keep(v));
            add("back " + v, BAD, x -> x.back(v));
        }
        badSheets();
    }

    private static void badSheets() {
        for (int v : new int[] {-1, 4, LOW, HIGH}) {
            add("sheet " + v, BAD, x -> x.sheet(v, 0, 1));
            add("sheet " + v + " below 0", BAD, x -> x.sheet(v, 0, -1));
            add("lay " + v, BAD, x -> x.lay(v, 0, 1));
            add("read " + v, BAD, x -> x.read(v, 0, 0, 1));
        }
        for (int v : new int[] {-1, 3, LOW, HIGH}) {
            add("sheet of lane " + v, BAD, x -> x.sheet(0, v, 1));
            add("sheet of lane " + v + " below 0", BAD, x -> x.sheet(0, v, -1));
            add("read as of lane " + v, BAD, x -> x.read(0, v, 0, 1));
        }
        for (int v : new int[] {41, HIGH}) {
            add("sheet of " + v, BAD, x -> x.sheet(0, 0, v));
        }
        for (int v : new int[] {-1, LOW}) {
            add("sheet of " + v, -14, x -> x.sheet(0, 0, v));
        }
        for (int v : new int[] {-1, 14, LOW, HIGH}) {
            add("read of " + v, BAD, x -> x.read(0, 0, 0, v));
        }
    }

    private static void questions() {
        for (int v : new int[] {0, 1, 5}) {
            add("rule", 0, x -> x.rule(v));
            add("one", 0, x -> x.one(v, 0));
            add("coin", 0, x -> x.coin(v, 4));
            add("talk", 0, x -> x.talk(v, 3));
            add("silent", 0, x -> x.silent(v));
            add("quiet", 0, x -> x.quiet(v));
            add("may", 0, x -> x.may(4, v, 3));
            add("knows", 0, x -> x.knows(v, 11));
            add("learns", 0, x -> x.learns(v, 1));
            add("hush", 0, x -> x.hush(v, 1, 0));
            add("hush", 0, x -> x.hush(v, 0, 1));
            add("funeral", 0, x -> x.funeral(v, 2, 0));
            add("funeral", 0, x -> x.funeral(3, 4, 10 + v));
            add("raid", 0, x -> x.raid(v));
            add("raid", 0, x -> x.raid(10 + v));
            add("settle", 0, x -> x.settle(1 + v, 0));
            add("fakes", 0, x -> x.fakes(1, v));
            add("next", 0, x -> x.next(v, 0));
            add("next", 0, x -> x.next(v, 1));
            add("chatter", 0, x -> x.chatter(v, 60));
            add("count", 0, x -> x.count(v));
        }
        add("fault", 0, SilenceCoin::fault);
        add("said", 0, SilenceCoin::said);
        add("first", 0, SilenceCoin::first);
        add("torn", 0, SilenceCoin::torn);
    }
}
