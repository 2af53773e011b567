import java.util.ArrayList;
import java.util.List;

/** What is refused changes nothing, nor does a question: an object that was asked answers all as its twin that was not. */
public final class RefusedTest {
    private static final int BAD = -1, STATE = -2, FULL = -3, NONE = -4;
    private static final int LEAST = Integer.MIN_VALUE, MOST = Integer.MAX_VALUE;
    private static final Check T = new Check();
    private static final List<Probe> PROBES = List.of(RefusedTest::told, RefusedTest::runs, RefusedTest::tape, RefusedTest::sheets,
        RefusedTest::images);

    /** Looks at an object, as far as one can in some two hundred calls, and may change it. */
    private interface Probe {
        void look(WheelsWidths x, List<Integer> answers);
    }

    private interface Maker {
        WheelsWidths make();
    }

    private static final Maker FULL_ONE = Scene::full;
    private static final Maker HALF_ONE = Scene::half;
    private static final Maker NEW_ONE = WheelsWidths::new;
    private static final Maker STUCK = () -> Scene.told(
        "rut 1 0 9;rut 2 0 9;rut 3 0 9;hill 5 1;cost 1 3;cart plain 0 1 0 0 4 0;cart hired 2 1 0 10 4 0;cart plain 0 1 0 4 6 3;");

    public static void main(String[] args) {
        probesSee();
        text();
        tapeCalls();
        changes();
        runs();
        plans();
        treaties();
        trackCalls();
        imageCalls();
        sheetCalls();
        reads();
        questions();
        T.finish("RefusedTest");
    }

    /** The call is answered as told and leaves the object as its twin is. */
    private static void refused(String name, Maker maker, int want, Scene.Call call) {
        for (Probe probe : PROBES) {
            WheelsWidths asked = maker.make();
            T.due(name, call.on(asked), want);
            T.due(name + " changes answer", changed(maker.make(), asked, probe), -1);
        }
    }

    /** The first answer in which two objects are not the same; -1: there is none. */
    private static int changed(WheelsWidths x, WheelsWidths other, Probe probe) {
        List<Integer> answers = new ArrayList<>();
        List<Integer> others = new ArrayList<>();
        probe.look(x, answers);
        probe.look(other, others);
        for (int i = 0; i < answers.size(); i++) {
            if (!answers.get(i).equals(others.get(i))) return i;
        }
        return answers.size() == others.size() ? -1 : answers.size();
    }

    private static void told(WheelsWidths x, List<Integer> answers) {
        for (int what = 0; what <= 5; what++) answers.add(x.count(what));
        answers.add(x.fault());
        answers.add(x.torn());
        int[] whats = {0, 1, 2, 10, 11, 12, 20, 21, 22};
        for (int y = 0; y <= x.count(0); y++) {
            for (int what : whats) answers.add(x.yard(y, what));
        }
        for (int c = 0; c < x.count(1); c++) {
            for (int what = 0; what < 7; what++) answers.add(x.cart(c, what));
        }
        for (int h = 1; h <= 60; h++) answers.add(x.frost(h));
        for (int some = 1; some <= 7; some++) answers.add(x.cost(some));
    }

    private static void runs(WheelsWidths x, List<Integer> answers) {
        for (int c = 0; c < x.count(1); c++) {
            answers.add(x.where(c, 3));
            answers.add(x.where(c, 60));
            answers.add(x.paid(c, 60));
            answers.add(x.waited(c, 60));
            answers.add(x.done(c));
            answers.add(x.can(c));
            answers.add(x.order(10 + c));
            answers.add(x.orders(10 + c));
            for (int what = 0; what < 3; what++) answers.add(x.way(c, what % 2, what));
        }
        for (int y = 0; y <= x.count(0); y++) {
            answers.add(x.whose(y));
            for (int w = 0; w < 3; w++) answers.add(x.depth(y, w, 60));
        }
        for (int h = 1; h <= 9; h++) answers.add(x.jam(h));
        for (int what = 0; what < 3; what++) answers.add(x.mend(what));
        answers.add(x.order(0));
        answers.add(x.orders(0));
        answers.add(x.shares(0));
        answers.add(x.shares(1));
        answers.add(x.deepest(60, 1));
        // tracks, one after the other, as the orders that fit them see them
        for (int n = x.count(2); n > 0; n--) {
            x.forget(n - 1);
            answers.add(x.orders(0));
        }
    }

    private static void tape(WheelsWidths x, List<Integer> answers) {
        answers.add(x.count(4));
        answers.add(x.text());
        told(x, answers);
    }

    private static void sheets(WheelsWidths x, List<Integer> answers) {
        for (int k = 0; k < 4; k++) {
            for (int lane = 0; lane < 3; lane++) {
                answers.add(x.read(k, lane, 0, 8));
                answers.add(x.torn());
                x.forget(0);
            }
            for (int f = 0; f < 12; f++) {
                answers.add(x.read(k, Math.min(k, 2), f, 1));
                answers.add(x.torn());
                x.forget(0);
            }
            int[] cells = {0, 1, 5, 6, 39, 40};
            for (int i : cells) answers.add(x.lay(k, i, 0));
        }
    }

    private static void images(WheelsWidths x, List<Integer> answers) {
        answers.add(x.back(1));
        answers.add(x.back(0));
        told(x, answers);
        answers.add(x.orders(0));
        answers.add(x.forget(0));
        answers.add(x.keep(0));
        answers.add(x.keep(1));
    }

    /** That the probes see each thing that can be changed; else what follows would tell nothing. */
    private static void probesSee() {
        seen("feed", HALF_ONE, x -> x.feed(0));
        seen("end", FULL_ONE, x -> x.end(40));
        seen("text", HALF_ONE, WheelsWidths::text);
        seen("dig", HALF_ONE, x -> x.dig(0, 0, 1));
        seen("fill", HALF_ONE, x -> x.fill(4));
        seen("shoe", HALF_ONE, x -> x.shoe(0, 2));
        seen("load", HALF_ONE, x -> x.load(4, 9));
        seen("freeze", HALF_ONE, x -> x.freeze(59, true));
        seen("go", HALF_ONE, x -> x.go(0));
        seen("price", HALF_ONE, x -> x.price(6, 60));
        seen("track", HALF_ONE, x -> x.track(0, 0));
        seen("forget", FULL_ONE, x -> x.forget(7));
        seen("keep 0", FULL_ONE, x -> x.keep(0));
        seen("keep 1", FULL_ONE, x -> x.keep(1));
        seen("back", FULL_ONE, x -> x.back(0));
        seen("sheet", FULL_ONE, x -> x.sheet(0, 0, 40));
        seen("a cell more", FULL_ONE, x -> x.sheet(2, 2, 1));
        seen("another lane", FULL_ONE, x -> x.sheet(2, 1, 0));
        seen("a sheet", FULL_ONE, x -> x.sheet(3, 0, 0));
        seen("lay", FULL_ONE, x -> x.lay(0, 2, 0));
        seen("read", HALF_ONE, x -> x.read(0, 0, 0, 1));
        seen("torn", HALF_ONE, x -> x.read(3, 0, 0, 1));
    }

    private static void seen(String name, Maker maker, Scene.Call call) {
        boolean isSeen = false;
        for (Probe probe : PROBES) {
            WheelsWidths asked = maker.make();
            T.due(name + " is taken", call.on(asked) >= 0 ? 1 : 0, 1);
            if (changed(maker.make(), asked, probe) >= 0) isSeen = true;
        }
        T.due(name + " is seen", isSeen ? 1 : 0, 1);
    }

    /** A text with a fault empties THE TAPE and tells its fault, and that is all. */
    private static void text() {
        String cart = "cart plain 0 1 0 0 1 0;";
        String[] texts = {"yards 3;.", "yards 3;bog", "yards 3;frost 61;", "yards 3;bog 0;bog 0;", cart.repeat(6), "bog 11;", "hill 0 0;rut 0 1 9;",
            "frost 3;cost 3 9;smith 0 9;toll 0 0 9;rut 0 0 9;hill 1 1;bog 2;yards 9;" + cart + "yards"};
        int[] places = {8, 11, 14, 18, 115, 7, 19, 94};
        int[] faults = {1, 2, 3, 4, 5, 6, 7, 4};
        for (int i = 0; i < texts.length; i++) {
            String text = texts[i];
            for (Probe probe : PROBES) {
                WheelsWidths x = Scene.full();
                x.end(0);
                Check.put(x, text);
                T.due("text of '" + text + "'", x.text(), -10 - places[i]);
                T.due("fault of '" + text + "'", x.fault(), faults[i]);
                T.due("tape of '" + text + "'", x.count(4), 0);
                WheelsWidths twin = Scene.full();
                twin.end(0);
                Check.put(twin, ".".repeat(faults[i] == 1 ? 1 : 0) + faulty(faults[i]));
                twin.text();
                T.due("'" + text + "' changes answer", changed(twin, x, probe), -1);
            }
        }
        // carts that a refused text told are not among those of the next one
        WheelsWidths x = Scene.told("");
        Check.put(x, cart.repeat(3) + "bog");
        x.text();
        T.due("no carts", x.count(1), 0);
        Check.put(x, cart);
        T.due("one line", x.text(), 1);
        T.due("one cart", x.count(1), 1);
        T.due("the fault is gone", x.fault(), 0);
    }

    /** The shortest text of a fault. */
    private static String faulty(int fault) {
        String[] texts = {"", ".", "a", "bog 21;", "bog 1;bog 1;", "cart plain 0 1 0 0 1 0;".repeat(6), "bog 11;", "hill 1 0;rut 1 1 0;"};
        return texts[fault];
    }

    private static void tapeCalls() {
        refused("feed, full", FULL_ONE, FULL, x -> x.feed(0));
        refused("feed, full", FULL_ONE, FULL, x -> x.feed(-1));
        for (int n = 393; n < 400; n++) {
            int bytes = n;
            Maker cut = () -> cut(bytes);
            refused("feed to " + (n + 8), cut, FULL, x -> x.feed(0));
        }
        int[] ends = {-1, 401, 408, LEAST, MOST};
        for (int n : ends) refused("end " + n, FULL_ONE, BAD, x -> x.end(n));
        refused("end", HALF_ONE, BAD, x -> x.end(49));
        refused("end", NEW_ONE, BAD, x -> x.end(1));
        refused("end of all", FULL_ONE, 400, x -> x.end(400));
    }

    private static WheelsWidths cut(int n) {
        WheelsWidths x = Scene.full();
        x.end(n);
        return x;
    }

    private static void changes() {
        int[] yards = {-1, 7, LEAST, MOST};
        for (int y : yards) {
            refused("dig", FULL_ONE, BAD, x -> x.dig(y, 0, 9));
            refused("fill", FULL_ONE, BAD, x -> x.fill(y));
        }
        int[] widths = {-1, 3, LEAST, MOST};
        for (int w : widths) {
            refused("dig", FULL_ONE, BAD, x -> x.dig(1, w, 9));
            refused("shoe", FULL_ONE, BAD, x -> x.shoe(0, w));
        }
        int[] depths = {-1, 100, LEAST, MOST};
        for (int depth : depths) refused("dig", FULL_ONE, BAD, x -> x.dig(1, 0, depth));
        refused("dig, no rut", FULL_ONE, STATE, x -> x.dig(5, 0, 9));
        refused("dig, no rut", FULL_ONE, STATE, x -> x.dig(5, 2, 9));
        refused("shoe, hired", FULL_ONE, STATE, x -> x.shoe(3, 2));
        int[] carts = {-1, 5, LEAST, MOST};
        for (int c : carts) {
            refused("shoe", FULL_ONE, BAD, x -> x.shoe(c, 2));
            refused("load", FULL_ONE, BAD, x -> x.load(c, 2));
        }
        int[] loads = {-1, 0, 10, LEAST, MOST};
        for (int v : loads) refused("load", FULL_ONE, BAD, x -> x.load(0, v));
        int[] hours = {-1, 0, 61, 64, LEAST, MOST};
        for (int h : hours) {
            refused("freeze", FULL_ONE, BAD, x -> x.freeze(h, true));
            refused("freeze", FULL_ONE, BAD, x -> x.freeze(h, false));
        }
        refused("shoe without carts", NEW_ONE, BAD, x -> x.shoe(0, 0));
        refused("load without carts", NEW_ONE, BAD, x -> x.load(0, 1));
    }

    private static void runs() {
        int[] hours = {-1, 61, LEAST, MOST};
        for (int h : hours) {
            refused("go", FULL_ONE, BAD, x -> x.go(h));
            refused("where", FULL_ONE, BAD, x -> x.where(0, h));
            refused("depth", FULL_ONE, BAD, x -> x.depth(0, 0, h));
            refused("paid", FULL_ONE, BAD, x -> x.paid(0, h));
            refused("waited", FULL_ONE, BAD, x -> x.waited(0, h));
            refused("jam", FULL_ONE, BAD, x -> x.jam(h));
            refused("deepest", FULL_ONE, BAD, x -> x.deepest(h, 0));
        }
        refused("jam", FULL_ONE, BAD, x -> x.jam(0));
        refused("depth", FULL_ONE, NONE, x -> x.depth(5, 0, 9));
        refused("done", FULL_ONE, BAD, x -> x.done(5));
        refused("done", STUCK, NONE, x -> x.done(0));
        refused("yard", FULL_ONE, BAD, x -> x.yard(7, 0));
        refused("cart", FULL_ONE, BAD, x -> x.cart(0, 7));
        refused("frost", FULL_ONE, BAD, x -> x.frost(61));
        refused("count", FULL_ONE, BAD, x -> x.count(6));
    }

    private static void plans() {
        refused("order", FULL_ONE, BAD, x -> x.order(15));
        refused("order", NEW_ONE, STATE, x -> x.order(0));
        refused("order", NEW_ONE, BAD, x -> x.order(10));
        refused("order", STUCK, NONE, x -> x.order(0));
        refused("order", STUCK, NONE, x -> x.order(12));
        refused("mend", FULL_ONE, BAD, x -> x.mend(3));
        refused("mend", STUCK, NONE, x -> x.mend(0));
        refused("mend", STUCK, NONE, x -> x.mend(2));
        refused("way", FULL_ONE, BAD, x -> x.way(5, 0, 0));
        refused("way", FULL_ONE, BAD, x -> x.way(0, 2, 0));
        refused("way", FULL_ONE, BAD, x -> x.way(0, 0, 3));
        refused("way", STUCK, NONE, x -> x.way(0, 0, 0));
        refused("way", FULL_ONE, NONE, x -> x.way(0, 1, MOST));
        refused("can", FULL_ONE, BAD, x -> x.can(5));
    }

    private static void treaties() {
        int[] peoples = {-1, 0, 8, LEAST, MOST};
        for (int some : peoples) {
            refused("cost", FULL_ONE, BAD, x -> x.cost(some));
            refused("price", FULL_ONE, BAD, x -> x.price(some, 1));
        }
        int[] prices = {-1, 61, LEAST, MOST};
        for (int v : prices) {
            refused("price", FULL_ONE, BAD, x -> x.price(1, v));
            refused("price", FULL_ONE, BAD, x -> x.price(7, v));
            refused("firm", FULL_ONE, BAD, x -> x.firm(v, 0, 0));
        }
        refused("shares", FULL_ONE, BAD, x -> x.shares(2));
        Maker dear = () -> Scene.told("cost 7 1;");
        refused("shares", dear, NONE, x -> x.shares(1));
    }

    private static void trackCalls() {
        refused("track, full", FULL_ONE, FULL, x -> x.track(2, 2));
        int[] yards = {-1, 7, LEAST, MOST};
        for (int y : yards) refused("track", HALF_ONE, BAD, x -> x.track(y, 0));
        int[] widths = {-1, 3, LEAST, MOST};
        for (int w : widths) refused("track", HALF_ONE, BAD, x -> x.track(0, w));
        int[] many = {-1, 9, LEAST, MOST};
        for (int n : many) refused("forget", FULL_ONE, BAD, x -> x.forget(n));
        refused("forget", HALF_ONE, BAD, x -> x.forget(4));
        refused("forget none", FULL_ONE, 8, x -> x.forget(8));
        refused("orders", FULL_ONE, BAD, x -> x.orders(15));
        refused("orders", FULL_ONE, NONE, x -> x.orders(10));
        refused("whose", FULL_ONE, BAD, x -> x.whose(7));
    }

    private static void imageCalls() {
        int[] images = {-1, 2, LEAST, MOST};
        for (int k : images) {
            refused("keep", FULL_ONE, BAD, x -> x.keep(k));
            refused("back", FULL_ONE, BAD, x -> x.back(k));
        }
        refused("back", FULL_ONE, STATE, x -> x.back(1));
        refused("back", NEW_ONE, STATE, x -> x.back(0));
    }

    private static void sheetCalls() {
        int[] sheets = {-1, 4, LEAST, MOST};
        for (int k : sheets) {
            refused("sheet", FULL_ONE, BAD, x -> x.sheet(k, 0, 5));
            refused("lay", FULL_ONE, BAD, x -> x.lay(k, 0, 99));
            refused("read", HALF_ONE, BAD, x -> x.read(k, 0, 0, 1));
        }
        int[] lanes = {-1, 3, LEAST, MOST};
        for (int lane : lanes) {
            refused("sheet", FULL_ONE, BAD, x -> x.sheet(0, lane, 5));
            refused("read", HALF_ONE, BAD, x -> x.read(0, lane, 0, 1));
        }
        refused("sheet, 41", FULL_ONE, BAD, x -> x.sheet(0, 0, 41));
        refused("sheet, 41", FULL_ONE, BAD, x -> x.sheet(0, 0, MOST));
        refused("sheet, -1", FULL_ONE, -14, x -> x.sheet(0, 0, -1));
        refused("sheet, -1", FULL_ONE, -14, x -> x.sheet(3, 0, LEAST));
        refused("lay nothing", FULL_ONE, -11, x -> x.lay(3, 0, 99));
        refused("lay, no cells", FULL_ONE, -12, x -> x.lay(2, 0, 99));
        int[] cells = {-1, 6, 40, LEAST, MOST};
        for (int i : cells) refused("lay", FULL_ONE, -12, x -> x.lay(1, i, 99));
        refused("lay behind the last", FULL_ONE, -12, x -> x.lay(0, 40, 99));
        refused("lay ahead of the first", FULL_ONE, -12, x -> x.lay(1, -1, 99));
        refused("lay what is there", FULL_ONE, 1, x -> x.lay(0, 2, 99 + 256));
    }

    /** Whichever way track() refuses one: none came, and torn() is as it was. */
    private static void reads() {
        Maker torn = () -> tornOf(Scene.half());
        int[] many = {-1, 9, LEAST, MOST};
        for (int n : many) refused("read", torn, BAD, x -> x.read(0, 0, 0, n));
        refused("read, no such yard", torn, -20, x -> x.read(0, 0, 2, 1));
        refused("read, no such yard", torn, -21, x -> x.read(0, 0, 0, 8));
        refused("read, no such width", torn, -20, x -> x.read(0, 0, 1, 8));
        refused("read, no such width", torn, -20, x -> x.read(0, 0, 4, 1));
        refused("read, no such yard", torn, -21, x -> x.read(1, 1, 0, 3));
        Maker full = () -> tornOf(Scene.full());
        refused("read, full", full, -20, x -> x.read(0, 0, 0, 1));
        Maker seven = () -> fewer(7);
        refused("read, full", seven, -21, x -> x.read(0, 0, 8, 2));
        refused("read, full", seven, -21, x -> x.read(0, 0, 8, 8));
        refused("read, full", () -> fewer(5), -23, x -> x.read(0, 0, 8, 4));
    }

    private static WheelsWidths tornOf(WheelsWidths x) {
        x.read(0, 1, 0, 1);
        return x;
    }

    private static WheelsWidths fewer(int tracks) {
        WheelsWidths x = tornOf(Scene.full());
        x.forget(tracks);
        return x;
    }

    /** Questions that are answered change nothing either; nor do calls that lay down what is there. */
    private static void questions() {
        List<Scene.Call> calls = List.of(x -> x.yard(2, 10), x -> x.cart(2, 3), x -> x.frost(9), x -> x.where(1, 60), x -> x.depth(1, 0, 60),
            x -> x.paid(0, 60), x -> x.waited(0, 60), x -> x.done(1), x -> x.jam(7), x -> x.deepest(60, 1), x -> x.order(0), x -> x.order(14),
            x -> x.mend(0), x -> x.mend(2), x -> x.way(1, 0, 0), x -> x.way(2, 1, 11), x -> x.can(4), x -> x.cost(3), x -> x.firm(6, 6, 6),
            x -> x.shares(0), x -> x.shares(1), x -> x.orders(0), x -> x.orders(10), x -> x.whose(3), x -> x.torn(), x -> x.fault(),
            x -> x.count(2), x -> x.dig(2, 0, 8), x -> x.load(1, 4), x -> x.freeze(9, true), x -> x.freeze(10, false), x -> x.shoe(0, 0),
            x -> x.price(6, 13), x -> x.end(48), x -> x.forget(3), x -> x.fill(6), x -> x.lay(0, 0, 1), x -> x.lay(0, 39, 0));
        for (int i = 0; i < calls.size(); i++) {
            int want = calls.get(i).on(Scene.half());
            refused("question " + i, HALF_ONE, want, calls.get(i));
        }
    }
}
