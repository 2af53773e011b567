import java.util.ArrayList;
import java.util.List;
import java.util.Random;

/** Long runs of calls, the same ones each time, whose answers are compared with the model's. */
public final class ModelTest {
    private static final int RUNS = 600;
    /** An object promises so many calls; a step makes fewer than STEP. */
    private static final int CALLS = 512;
    private static final int STEP = 60;
    private static final String[] KINDS = {"plain", "double", "sledge", "hired", "smuggler", "plain", "odd"};
    private static final int[] ODD = {-1, -2, Integer.MIN_VALUE, Integer.MAX_VALUE, 3, 5, 7, 8, 9, 10, 11, 20, 21, 41, 60, 61, 100};
    private static final Check T = new Check();

    private static Random dice;
    private static WheelsWidths x;
    private static Model m;
    private static int calls;
    private static int taken;

    public static void main(String[] args) {
        int runs = args.length > 0 ? Integer.parseInt(args[0]) : RUNS;
        for (int run = 0; run < runs; run++) {
            dice = new Random(run);
            x = new WheelsWidths();
            m = new Model();
            calls = 0;
            while (calls <= CALLS - STEP) step();
            while (calls < CALLS) due("yard " + calls % 11 + " 11", x.yard(calls % 11, 11), m.yard(calls % 11, 11));
        }
        System.out.println(taken + " texts taken");
        T.finish("ModelTest");
    }

    private static void due(String call, long got, long want) {
        calls++;
        T.due(call, got, want);
    }

    private static int below(int n) {
        return dice.nextInt(n);
    }

    /** Mostly a number from 0 to below n, now and then one that is none of these. */
    private static int some(int n) {
        if (below(24) == 0) return ODD[below(ODD.length)];
        return below(30) == 0 ? n : below(n);
    }

    private static void step() {
        if (calls == 0 || below(70) == 0) tellText();
        else if (below(9) == 0) sheetCall();
        else if (below(3) == 0) changeCall();
        else askCall();
    }

    private static void tellText() {
        String text = below(20) == 0 ? noise() : below(3) == 0 ? broken(lines()) : lines();
        for (int i = 0; i < text.length(); i += 8) {
            long v = Check.eight(text, i);
            due("feed " + v, x.feed(v), m.feed(v));
        }
        int n = text.length() + (below(9) == 0 ? 1 : 0);
        due("end " + n, x.end(n), m.end(n));
        due("count 4", x.count(4), m.count(4));
        int answer = x.text();
        if (answer >= 0) taken++;
        due("text of '" + text + "'", answer, m.text());
        due("fault of '" + text + "'", x.fault(), m.fault());
    }

    private static String noise() {
        StringBuilder text = new StringBuilder();
        int n = below(30);
        for (int i = 0; i < n; i++) text.append((char) below(256));
        return text.toString();
    }

    private static String broken(String text) {
        StringBuilder changed = new StringBuilder(text);
        for (int k = below(3); k >= 0 && changed.length() > 0; k--) {
            int i = below(changed.length());
            if (below(3) == 0) changed.deleteCharAt(i);
            else if (below(2) == 0) changed.setCharAt(i, "0123456789; abcrt.".charAt(below(18)));
            else changed.insert(i, "0123456789;  abcrt.".charAt(below(19)));
        }
        return changed.substring(0, Math.min(changed.length(), 400));
    }

    private static String lines() {
        int last = below(8) == 0 ? 20 : 2 + below(9);
        int axle = below(3) == 0 ? 31 : 8;
        List<String> lines = new ArrayList<>();
        List<Integer> yards = new ArrayList<>();
        for (int y = 0; y <= last; y++) yards.add(y);
        java.util.Collections.shuffle(yards, dice);
        if (last != 10 || below(2) == 0) lines.add("yards " + last);
        for (int k = below(7); k > 0; k--) lines.add(cartLine(last, axle));
        for (int k = below(4); k > 0; k--) lines.add("bog " + yards.get(k % yards.size()));
        for (int k = below(2); k > 0; k--) lines.add("hill " + yards.get(k % yards.size()) + " " + below(3));
        for (int k = below(4); k > 0; k--) lines.add("smith " + yards.get(k % yards.size()) + " " + below(10));
        for (int k = below(9); k > 0; k--) lines.add("toll " + below(last + 1) + " " + below(3) + " " + below(10));
        for (int k = below(7); k > 0; k--) lines.add("rut " + below(last + 1) + " " + below(3) + " " + below(axle + 2));
        for (int k = below(5); k > 0; k--) lines.add("frost " + (1 + below(below(2) == 0 ? 60 : 9)));
        for (int some = 1; some <= 7; some++) if (below(2) == 0) lines.add("cost " + some + " " + below(7 * Integer.bitCount(some)));
        if (below(3) > 0) java.util.Collections.shuffle(lines, dice);
        StringBuilder text = new StringBuilder();
        for (String line : lines) {
            String blank = below(9) == 0 ? "  " : "";
            if (text.length() + line.length() + 3 <= 400) text.append(blank).append(line).append(";");
        }
        return text.toString();
    }

    private static String cartLine(int last, int axle) {
        String kind = KINDS[below(60) == 0 ? 6 : below(6)];
        int yard = below(last + 1);
        int goal = below(50) == 0 ? yard : (yard + 1 + below(last)) % (last + 1);
        return "cart " + kind + " " + below(below(2) + 2) + " " + (1 + below(9)) + " " + below(axle) + " " + yard
            + " " + goal + " " + (below(3) == 0 ? below(21) : 0);
    }

    private static void changeCall() {
        int a = some(12);
        int b = some(3);
        int c = some(5);
        int h = below(2) == 0 ? some(61) : some(9);
        int v = below(3) == 0 ? some(100) : below(12);
        boolean is = below(2) == 0;
        switch (below(12)) {
            case 0: due("dig " + a + " " + b + " " + v, x.dig(a, b, v), m.dig(a, b, v)); break;
            case 1: due("fill " + a, x.fill(a), m.fill(a)); break;
            case 2: due("shoe " + c + " " + b, x.shoe(c, b), m.shoe(c, b)); break;
            case 3: due("load " + c + " " + v, x.load(c, v), m.load(c, v)); break;
            case 4: case 5: due("freeze " + h + " " + is, x.freeze(h, is), m.freeze(h, is)); break;
            case 6: if (below(4) == 0) due("go " + h, x.go(h), m.go(h)); break;
            case 7: due("price " + a + " " + v, x.price(a, v), m.price(a, v)); break;
            case 8: due("track " + a + " " + b, x.track(a, b), m.track(a, b)); break;
            case 9: due("forget " + c, x.forget(c), m.forget(c)); break;
            case 10: due("keep " + b, x.keep(b), m.keep(b)); break;
            default: due("back " + b, x.back(b), m.back(b)); break;
        }
    }

    private static void askCall() {
        int a = some(12);
        int b = some(3);
        int c = some(5);
        int h = below(2) == 0 ? some(61) : some(9);
        int what = some(26);
        int of = below(2) == 0 ? 0 : below(9) == 0 ? some(16) : 10 + below(5);
        switch (below(21)) {
            case 0: due("yard " + a + " " + what, x.yard(a, what), m.yard(a, what)); break;
            case 1: due("cart " + c + " " + b, x.cart(c, b), m.cart(c, b)); break;
            case 2: due("cart " + c + " " + a, x.cart(c, a), m.cart(c, a)); break;
            case 3: due("frost " + h, x.frost(h), m.frost(h)); break;
            case 4: due("where " + c + " " + h, x.where(c, h), m.where(c, h)); break;
            case 5: due("depth " + a + " " + b + " " + h, x.depth(a, b, h), m.depth(a, b, h)); break;
            case 6: due("paid " + c + " " + h, x.paid(c, h), m.paid(c, h)); break;
            case 7: due("waited " + c + " " + h, x.waited(c, h), m.waited(c, h)); break;
            case 8: due("done " + c, x.done(c), m.done(c)); break;
            case 9: due("jam " + h, x.jam(h), m.jam(h)); break;
            case 10: due("deepest " + h + " " + b, x.deepest(h, b), m.deepest(h, b)); break;
            case 11: due("order " + of, x.order(of), m.order(of)); break;
            case 12: due("mend " + b, x.mend(b), m.mend(b)); break;
            case 13: case 14: case 15: wayCalls(c, b, what); break;
            case 16: due("can " + c, x.can(c), m.can(c)); break;
            case 17: treatyCalls(a, b, what); break;
            case 18: due("orders " + of, x.orders(of), m.orders(of)); break;
            case 19: due("whose " + a, x.whose(a), m.whose(a)); break;
            default: due("count " + c, x.count(c), m.count(c)); break;
        }
    }

    private static void wayCalls(int c, int b, int what) {
        due("way " + c + " " + b + " " + what, x.way(c, b, what), m.way(c, b, what));
        int by = below(2);
        due("way " + c + " " + by + " 2", x.way(c, by, 2), m.way(c, by, 2));
        int acts = m.way(c, by, 2);
        for (int k = 0; k < acts && calls < CALLS; k++) {
            due("way " + c + " " + by + " act " + k, x.way(c, by, 10 + k), m.way(c, by, 10 + k));
        }
    }

    private static void treatyCalls(int a, int b, int what) {
        due("cost " + a, x.cost(a), m.cost(a));
        due("firm " + a + " " + b + " " + what, x.firm(a, b, what), m.firm(a, b, what));
        int rest = m.cost(7) - a - b;
        due("firm " + a + " " + b + " " + rest, x.firm(a, b, rest), m.firm(a, b, rest));
        int which = some(2);
        due("shares " + which, x.shares(which), m.shares(which));
    }

    private static void sheetCall() {
        int k = some(4);
        int lane = some(3);
        int i = below(3) == 0 ? some(41) : below(9);
        switch (below(9)) {
            case 0: due("sheet " + k + " " + lane + " " + i, x.sheet(k, lane, i), m.sheet(k, lane, i)); break;
            case 1: sheetOfTracks(); break;
            case 2: case 3: layCall(k, i); break;
            case 4: due("torn", x.torn(), m.torn()); break;
            case 5: due("count 5", x.count(5), m.count(5)); break;
            default: readCall(k, lane, i); break;
        }
    }

    private static void sheetOfTracks() {
        int k = below(4);
        int lane = below(3);
        int n = below(12);
        due("sheet " + k, x.sheet(k, lane, n), m.sheet(k, lane, n));
        for (int i = 0; i < n && calls < CALLS; i++) {
            int v = i % 2 == 0 ? below(9) : below(3);
            due("lay " + k + " " + i, x.lay(k, i, v), m.lay(k, i, v));
        }
        due("forget 0", x.forget(0), m.forget(0));
        due("read " + k, x.read(k, lane, 0, n / 2), m.read(k, lane, 0, n / 2));
        due("torn", x.torn(), m.torn());
    }

    private static void layCall(int k, int i) {
        int v = below(9) == 0 ? dice.nextInt() : below(9) == 0 ? 256 * below(600) + below(3) : below(4);
        due("lay " + k + " " + i + " " + v, x.lay(k, i, v), m.lay(k, i, v));
    }

    private static void readCall(int k, int lane, int f) {
        int n = some(9);
        due("read " + k + " " + lane + " " + f + " " + n, x.read(k, lane, f, n), m.read(k, lane, f, n));
        due("torn", x.torn(), m.torn());
        due("count 2", x.count(2), m.count(2));
    }
}
