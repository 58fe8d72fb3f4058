/**
 * All that can be seen of an object, as one text. Some of it is only seen by calls that change it, so
 * that each part is asked of an object of its own, made in the same way; none has more than 512 calls.
 */
final class State {
    private State() { }

    static String behind(Check.Make make, Check.Call call) {
        StringBuilder b = new StringBuilder();
        SilenceCoin x = made(make, call);
        b.append("there is ").append(town(x)).append(rest(x));
        b.append("\n  known, tested ").append(notes(made(make, call)));
        for (int k = 0; k < 2; k++) {
            SilenceCoin y = made(make, call);
            b.append("\n  image ").append(k).append(' ').append(y.back(k)).append(' ').append(town(y));
        }
        SilenceCoin z = made(make, call);
        b.append("\n  tape ").append(z.text()).append(' ').append(z.fault()).append(' ').append(town(z));
        for (int k = 0; k < 4; k++) {
            b.append("\n  sheet ").append(k).append(' ').append(sheet(made(make, call), k));
        }
        return b.toString();
    }

    private static SilenceCoin made(Check.Make make, Check.Call call) {
        SilenceCoin x = make.make();
        call.on(x);
        return x;
    }

    private static String town(SilenceCoin x) {
        StringBuilder b = new StringBuilder();
        for (int w = 0; w < 5; w++) {
            b.append(x.rule(w)).append(' ');
        }
        for (int p = 0; p < x.rule(0); p++) {
            b.append("one ").append(x.one(p, 0)).append(' ').append(x.one(p, 1)).append(' ').append(x.one(p, 2));
            b.append(';');
        }
        for (int c = 0; c < x.rule(1); c++) {
            b.append("coin ");
            for (int w = 0; w < 5; w++) {
                b.append(x.coin(c, w)).append(' ');
            }
        }
        for (int k = 0; k < x.rule(2); k++) {
            b.append("talk ");
            for (int w = 0; w < 4; w++) {
                b.append(x.talk(k, w)).append(' ');
            }
        }
        return b.toString();
    }

    private static String rest(SilenceCoin x) {
        StringBuilder b = new StringBuilder("fault ").append(x.fault()).append(" torn ").append(x.torn());
        b.append(" counts ");
        for (int w = 0; w < 7; w++) {
            b.append(x.count(w)).append(' ');
        }
        return b.toString();
    }

    private static String notes(SilenceCoin x) {
        StringBuilder b = new StringBuilder();
        for (int n = x.count(1); n >= 0; n--) {
            b.append(x.forget(n)).append(':').append(x.first()).append(' ');
        }
        for (int n = x.count(2); n >= 0; n--) {
            b.append(x.untest(n)).append(':');
            for (int k = 0; k < 4; k++) {
                b.append(x.fakes(k, 0)).append(' ').append(x.fakes(k, 1)).append(' ');
                b.append(x.fakes(k, 2)).append(' ').append(x.fakes(k, 3)).append(',');
            }
        }
        return b.toString();
    }

    private static String sheet(SilenceCoin x, int k) {
        StringBuilder b = new StringBuilder();
        x.end(0);
        Check.put(x, Check.many("one plain 0 0;", 6));
        x.text();
        x.keep(0);
        int itsLane = 0;
        for (int lane = 0; lane < 3; lane++) {
            int came = x.read(k, lane, 0, 1);
            int torn = x.torn();
            b.append(came).append('/').append(torn).append(' ');
            // a talk that speak() refuses was read whole, and torn() then tells of an earlier read
            itsLane = came != 0 || torn == 2 ? lane : itsLane;
            x.back(0);
        }
        for (int f = 0; f < 39; f += 3) {
            b.append(x.read(k, itsLane, f, 1)).append(':');
            b.append(x.talk(0, 0)).append(' ').append(x.talk(0, 1)).append(' ').append(x.talk(0, 2)).append(' ');
            x.back(0);
        }
        for (int i = 40; i >= 0; i--) {
            b.append(x.lay(k, i, 0)).append(' ');
        }
        return b.toString();
    }
}
