/** Every call with all numbers about its bounds and at the ends of int, each with each, compared with the model's answer. */
public final class CornersTest {
    private static final int LEAST = Integer.MIN_VALUE, MOST = Integer.MAX_VALUE;
    private static final int[] ALL = {LEAST, LEAST + 1, LEAST + 9, LEAST + 10, LEAST + 20, -100, -2, -1, 0, 1, 2, 3, 4, 5, 6, 7, 8, 9, 10, 11,
        12, 13, 19, 20, 21, 22, 23, 39, 40, 41, 59, 60, 61, 62, 98, 99, 100, 128, 255, 256, 65536, MOST - 20, MOST - 10, MOST - 1, MOST};
    private static final int[] SOME = {LEAST, -1, 0, 1, 2, 3, 5, 6, 7, 8, 9, 10, 11, 40, 60, 61, 99, 100, MOST};
    private static final int[] FEW = {LEAST, -1, 0, 1, 2, 3, 4, 8, 9, 39, 40, MOST};
    private static final String TEXT = "yards 6;hill 5 1;bog 3;smith 2 4;toll 1 0 3;rut 4 0 9;frost 1;frost 60;cost 7 9;cost 3 60;"
        + "cart plain 0 2 9 0 4 0;cart hired 1 1 9 6 0 3;";
    /** Fewer than 512 with those that make the object. */
    private static final int CALLS = 440;
    private static final Check T = new Check();

    private static WheelsWidths x;
    private static Model m;
    private static int calls;

    private interface One {
        int of(int a);
    }

    private interface Two {
        int of(int a, int b);
    }

    private interface Three {
        int of(int a, int b, int c);
    }

    private interface Four {
        int of(int a, int b, int c, int d);
    }

    public static void main(String[] args) {
        make();
        ones();
        twos();
        threes();
        four("read", (a, b, c, d) -> x.read(a, b, c, d), (a, b, c, d) -> m.read(a, b, c, d));
        T.finish("CornersTest");
    }

    private static void make() {
        x = new WheelsWidths();
        m = new Model();
        calls = 0;
        for (int i = 0; i < TEXT.length(); i += 8) T.due("feed", x.feed(Check.eight(TEXT, i)), m.feed(Check.eight(TEXT, i)));
        T.due("text", x.text(), m.text());
        T.due("feed", x.feed(1), m.feed(1));
        T.due("keep", x.keep(0), m.keep(0));
        T.due("track", x.track(1, 0), m.track(1, 0));
        T.due("track", x.track(2, 1), m.track(2, 1));
        for (int k = 0; k < 3; k++) T.due("sheet", x.sheet(k, k, 10 * k), m.sheet(k, k, 10 * k));
        T.due("lay", x.lay(1, 0, 5), m.lay(1, 0, 5));
        T.due("lay", x.lay(2, 3, 2), m.lay(2, 3, 2));
    }

    private static void due(String call, int got, int want) {
        T.due(call, got, want);
        if (call.startsWith("read")) T.due("torn behind " + call, x.torn(), m.torn());
        calls += 2;
        if (calls > CALLS) make();
    }

    private static void one(String name, One asked, One model) {
        for (int a : ALL) due(name + " " + a, asked.of(a), model.of(a));
    }

    private static void two(String name, Two asked, Two model) {
        for (int a : ALL) {
            for (int b : ALL) due(name + " " + a + " " + b, asked.of(a, b), model.of(a, b));
        }
    }

    private static void three(String name, Three asked, Three model) {
        for (int a : SOME) {
            for (int b : SOME) {
                for (int c : SOME) due(name + " " + a + " " + b + " " + c, asked.of(a, b, c), model.of(a, b, c));
            }
        }
    }

    private static void four(String name, Four asked, Four model) {
        for (int a : FEW) {
            for (int b : FEW) {
                for (int c : FEW) {
                    for (int d : FEW) due(name + " " + a + " " + b + " " + c + " " + d, asked.of(a, b, c, d), model.of(a, b, c, d));
                }
            }
        }
    }

    private static void ones() {
        one("end", a -> x.end(a), a -> m.end(a));
        one("frost", a -> x.frost(a), a -> m.frost(a));
        one("fill", a -> x.fill(a), a -> m.fill(a));
        one("freeze true", a -> x.freeze(a, true), a -> m.freeze(a, true));
        one("freeze false", a -> x.freeze(a, false), a -> m.freeze(a, false));
        one("done", a -> x.done(a), a -> m.done(a));
        one("jam", a -> x.jam(a), a -> m.jam(a));
        one("order", a -> x.order(a), a -> m.order(a));
        one("mend", a -> x.mend(a), a -> m.mend(a));
        one("can", a -> x.can(a), a -> m.can(a));
        one("cost", a -> x.cost(a), a -> m.cost(a));
        one("shares", a -> x.shares(a), a -> m.shares(a));
        one("forget", a -> x.forget(a), a -> m.forget(a));
        one("orders", a -> x.orders(a), a -> m.orders(a));
        one("whose", a -> x.whose(a), a -> m.whose(a));
        one("keep", a -> x.keep(a), a -> m.keep(a));
        one("back", a -> x.back(a), a -> m.back(a));
        one("count", a -> x.count(a), a -> m.count(a));
        one("go", a -> x.go(a), a -> m.go(a));
        make();
    }

    private static void twos() {
        two("yard", (a, b) -> x.yard(a, b), (a, b) -> m.yard(a, b));
        two("cart", (a, b) -> x.cart(a, b), (a, b) -> m.cart(a, b));
        two("shoe", (a, b) -> x.shoe(a, b), (a, b) -> m.shoe(a, b));
        two("load", (a, b) -> x.load(a, b), (a, b) -> m.load(a, b));
        two("where", (a, b) -> x.where(a, b), (a, b) -> m.where(a, b));
        two("paid", (a, b) -> x.paid(a, b), (a, b) -> m.paid(a, b));
        two("waited", (a, b) -> x.waited(a, b), (a, b) -> m.waited(a, b));
        two("deepest", (a, b) -> x.deepest(a, b), (a, b) -> m.deepest(a, b));
        two("price", (a, b) -> x.price(a, b), (a, b) -> m.price(a, b));
        two("track", (a, b) -> x.track(a, b), (a, b) -> m.track(a, b));
    }

    private static void threes() {
        three("dig", (a, b, c) -> x.dig(a, b, c), (a, b, c) -> m.dig(a, b, c));
        three("depth", (a, b, c) -> x.depth(a, b, c), (a, b, c) -> m.depth(a, b, c));
        three("way", (a, b, c) -> x.way(a, b, c), (a, b, c) -> m.way(a, b, c));
        three("firm", (a, b, c) -> x.firm(a, b, c), (a, b, c) -> m.firm(a, b, c));
        three("sheet", (a, b, c) -> x.sheet(a, b, c), (a, b, c) -> m.sheet(a, b, c));
        three("lay", (a, b, c) -> x.lay(a, b, c), (a, b, c) -> m.lay(a, b, c));
    }
}
