/** For each number that a call takes: the last that is taken and the first that is refused, on both sides, and the ends of int. */
public final class BoundsTest {
    private static final int BAD = -1, STATE = -2, NONE = -4;
    private static final int LEAST = Integer.MIN_VALUE, MOST = Integer.MAX_VALUE;
    private static final Check T = new Check();

    public static void main(String[] args) {
        feed();
        end();
        yard();
        cartAndFrost();
        dig();
        fill();
        shoeAndLoad();
        freeze();
        cartsOfRuns();
        hoursOfRuns();
        depth();
        deepest();
        go();
        order();
        mend();
        way();
        costs();
        firm();
        tracks();
        orders();
        imagesKept();
        sheets();
        sheetsAnew();
        lay();
        read();
        torn();
        count();
        badComesFirst();
        T.finish("BoundsTest");
    }

    /** Makes the object that is asked, a new one each time. */
    private interface Maker {
        WheelsWidths make();
    }

    /** BAD outside of least to most and at the ends of int; at the bounds themselves what is due there. */
    private static void bounds(String call, Maker maker, int least, int atLeast, int most, int atMost, Scene.Numbered asked) {
        taken(call, maker, least, atLeast, asked);
        taken(call, maker, most, atMost, asked);
        bad(call, maker, asked, least - 1, most + 1, LEAST, MOST);
    }

    private static void taken(String call, Maker maker, int v, int want, Scene.Numbered asked) {
        T.due(call + " of " + v, asked.of(maker.make(), v), want);
    }

    private static void bad(String call, Maker maker, Scene.Numbered asked, int... numbers) {
        for (int v : numbers) taken(call, maker, v, BAD, asked);
    }

    // ---- the text

    /** Any long is taken: eight bytes of it, the highest first. */
    private static void feed() {
        long[] any = {0, 1, -1, Long.MIN_VALUE, Long.MAX_VALUE, MOST, LEAST};
        WheelsWidths x = new WheelsWidths();
        for (int i = 0; i < any.length; i++) T.due("feed " + any[i], x.feed(any[i]), 8 * i + 8);
        // the only sign is the last byte, then the first one
        int[] places = {7, 0, 3, 4};
        for (int place : places) {
            long blanks = 0x2020202020202020L;
            long v = blanks & ~(255L << 8 * (7 - place)) | (long) ';' << 8 * (7 - place);
            x = new WheelsWidths();
            x.feed(v);
            T.due("text of the sign at " + place, x.text(), -10 - place);
            T.due("fault of the sign at " + place, x.fault(), 2);
        }
        x = new WheelsWidths();
        x.feed(Long.MIN_VALUE);
        T.due("the byte -128", x.text() * 10 + x.fault(), -99);
        x.feed(-1);
        T.due("the byte -1", x.text() * 10 + x.fault(), -99);
    }

    private static void end() {
        int[] lengths = {0, 8, 400};
        for (int length : lengths) {
            bounds("end, " + length + " bytes", () -> tape(length), 0, length, length, length, WheelsWidths::end);
            bounds("end and count, " + length + " bytes", () -> tape(length), 0, 0, length, length, BoundsTest::endAndCount);
        }
        WheelsWidths x = tape(16);
        x.end(9);
        T.due("end of 9 bytes", x.end(10), BAD);
        T.due("end of 9 bytes", x.end(9), 9);
        T.due("end of 9 bytes", x.end(8), 9);
        T.due("feed behind 8 bytes", x.feed(0), 16);
    }

    private static int endAndCount(WheelsWidths x, int n) {
        return x.end(n) == BAD ? BAD : x.count(4);
    }

    private static WheelsWidths tape(int length) {
        WheelsWidths x = new WheelsWidths();
        for (int i = 0; i < length; i += 8) x.feed(i);
        return x;
    }

    private static void yard() {
        int[] lasts = {2, 10, 20};
        for (int last : lasts) {
            String call = "yard of a road up to " + last;
            bounds(call, () -> Scene.yards(last), 0, 7, last, 7, (x, y) -> x.yard(y, 0));
            bounds(call, () -> Scene.yards(last), 0, 0, last, 0, (x, y) -> x.yard(y, 1));
            bounds(call, () -> Scene.yards(last), 0, NONE, last, NONE, (x, y) -> x.yard(y, 2));
            bounds(call, () -> Scene.yards(last), 0, 0, last, 0, (x, y) -> x.yard(y, 12));
            bounds(call, () -> Scene.yards(last), 0, 0, last, 0, (x, y) -> x.yard(y, 20));
        }
        Maker one = () -> Scene.told("bog 4;smith 4 9;toll 4 0 6;toll 4 2 8;rut 4 0 1;rut 4 2 3;");
        bounds("yard what", one, 0, 7, 2, 9, (x, what) -> x.yard(4, what));
        bounds("yard depth", one, 10, 1, 12, 3, (x, what) -> x.yard(4, what));
        bounds("yard toll", one, 20, 6, 22, 8, (x, what) -> x.yard(4, what));
        bad("yard what", one, (x, what) -> x.yard(4, what), -10, -20, 30, 100, LEAST + 10, LEAST + 20, LEAST + 22, MOST - 10);
    }

    private static void cartAndFrost() {
        for (int n = 1; n <= 5; n++) {
            int carts = n;
            bounds("cart of " + n, () -> Scene.carts(carts), 0, 3, n - 1, 3, (x, c) -> x.cart(c, 5));
        }
        bad("cart of none", WheelsWidths::new, (x, c) -> x.cart(c, 0), 0, 1, -1, LEAST, MOST);
        Maker odd = () -> Scene.told("cart smuggler 2 9 30 1 0 20;");
        bounds("cart what", odd, 0, 4, 6, 20, (x, what) -> x.cart(0, what));
        Maker frosts = () -> Scene.told("frost 1;frost 60;");
        bounds("frost", frosts, 1, 1, 60, 1, WheelsWidths::frost);
        taken("no frost", frosts, 2, 0, WheelsWidths::frost);
        taken("no frost", frosts, 59, 0, WheelsWidths::frost);
    }

    // ---- what is changed

    private static void dig() {
        int[] lasts = {2, 10, 20};
        for (int last : lasts) {
            bounds("dig yard", () -> Scene.yards(last), 0, 0, last, 0, (x, y) -> x.dig(y, 1, 5));
            bounds("dig yard and ask", () -> Scene.yards(last), 0, 5, last, 5, (x, y) -> digAndAsk(x, y, 1, 5));
        }
        Maker road = () -> Scene.told("rut 4 0 3;rut 4 2 8;");
        bounds("dig width", road, 0, 3, 2, 8, (x, w) -> x.dig(4, w, 5));
        bounds("dig depth", road, 0, 3, 99, 3, (x, depth) -> x.dig(4, 0, depth));
        bounds("dig depth and ask", road, 0, 0, 99, 99, (x, depth) -> digAndAsk(x, 4, 0, depth));
        // a hill has one rut alone
        Maker hill = () -> Scene.told("hill 4 1;");
        taken("dig on a hill", hill, 1, 0, (x, w) -> x.dig(4, w, 5));
        taken("dig on a hill", hill, 0, STATE, (x, w) -> x.dig(4, w, 5));
        taken("dig on a hill", hill, 2, STATE, (x, w) -> x.dig(4, w, 5));
        bad("dig on a hill", hill, (x, w) -> x.dig(4, w, 5), -1, 3);
        bad("dig on a hill, depth", hill, (x, depth) -> x.dig(4, 0, depth), -1, 100, LEAST, MOST);
    }

    private static int digAndAsk(WheelsWidths x, int y, int w, int depth) {
        return x.dig(y, w, depth) == BAD ? BAD : x.yard(y, 10 + w);
    }

    private static void fill() {
        int[] lasts = {2, 10, 20};
        for (int last : lasts) bounds("fill", () -> Scene.yards(last), 0, 0, last, 0, WheelsWidths::fill);
        String ruts = "rut 0 0 99;rut 0 1 98;rut 2 1 3;rut 2 2 4;yards 2;";
        bounds("fill the deepest", () -> Scene.told(ruts), 0, 99, 2, 4, WheelsWidths::fill);
        WheelsWidths x = Scene.told(ruts);
        x.fill(0);
        T.due("filled", x.yard(0, 10) + x.yard(0, 11) + x.yard(0, 12), 0);
        T.due("another yard stays", x.yard(2, 11) * 10 + x.yard(2, 12), 34);
        T.due("the deepest of width 1", Scene.told("rut 3 0 1;rut 3 1 7;rut 3 2 2;").fill(3), 7);
        T.due("a hill", Scene.told("hill 3 2;rut 3 2 99;").fill(3), 99);
        // the yards beside it stay, and are not among its ruts
        x = Scene.told("rut 3 0 90;rut 3 1 91;rut 3 2 92;rut 4 0 1;rut 4 1 2;rut 4 2 3;rut 5 0 95;rut 5 1 96;rut 5 2 97;");
        T.due("fill between", x.fill(4), 3);
        for (int w = 0; w < 3; w++) {
            T.due("ahead of it", x.yard(3, 10 + w), 90 + w);
            T.due("filled", x.yard(4, 10 + w), 0);
            T.due("behind it", x.yard(5, 10 + w), 95 + w);
        }
    }

    private static void shoeAndLoad() {
        for (int n = 1; n <= 5; n++) {
            int carts = n;
            bounds("shoe of " + n, () -> Scene.carts(carts), 0, 0, n - 1, 0, (x, c) -> x.shoe(c, 2));
            bounds("load of " + n, () -> Scene.carts(carts), 0, 1, n - 1, 1, (x, c) -> x.load(c, 2));
        }
        bad("shoe of none", WheelsWidths::new, (x, c) -> x.shoe(c, 0), 0, -1, LEAST, MOST);
        bad("load of none", WheelsWidths::new, (x, c) -> x.load(c, 1), 0, -1, LEAST, MOST);
        Maker one = () -> Scene.told("cart plain 1 5 0 0 3 0;");
        bounds("shoe width", one, 0, 1, 2, 1, (x, w) -> x.shoe(0, w));
        bounds("shoe and ask", one, 0, 0, 2, 2, (x, w) -> x.shoe(0, w) == BAD ? BAD : x.cart(0, 1));
        bounds("load", one, 1, 5, 9, 5, (x, v) -> x.load(0, v));
        bounds("load and ask", one, 1, 1, 9, 9, (x, v) -> x.load(0, v) == BAD ? BAD : x.cart(0, 2));
        // a hired cart alone can not change its width, but its load
        String[] kinds = {"plain", "double", "sledge", "hired", "smuggler"};
        for (String kind : kinds) {
            Maker of = () -> Scene.told("cart " + kind + " 1 5 0 0 3 0;");
            int want = kind.equals("hired") ? STATE : 1;
            bounds("shoe " + kind, of, 0, want, 2, want, (x, w) -> x.shoe(0, w));
            taken("shoe " + kind, of, 1, want, (x, w) -> x.shoe(0, w));
            bounds("load " + kind, of, 1, 5, 9, 5, (x, v) -> x.load(0, v));
        }
    }

    private static void freeze() {
        Maker none = WheelsWidths::new;
        Maker both = () -> Scene.told("frost 1;frost 60;");
        boolean[] answers = {true, false};
        for (boolean is : answers) {
            bounds("freeze " + is, none, 1, 0, 60, 0, (x, h) -> x.freeze(h, is));
            bounds("freeze again " + is, both, 1, 1, 60, 1, (x, h) -> x.freeze(h, is));
            int after = is ? 1 : 0;
            bounds("freeze and ask " + is, none, 1, after, 60, after, (x, h) -> x.freeze(h, is) == BAD ? BAD : x.frost(h));
            bounds("freeze and ask " + is, both, 1, after, 60, after, (x, h) -> x.freeze(h, is) == BAD ? BAD : x.frost(h));
        }
    }

    // ---- a run

    private static void cartsOfRuns() {
        for (int n = 1; n <= 5; n++) {
            int carts = n;
            // each waits for the one ahead of it, by two hours a cart; light ones go on
            Maker of = () -> Scene.carts(carts);
            bounds("where of " + n, of, 0, 0, n - 1, 0, (x, c) -> x.where(c, 0));
            bounds("paid of " + n, of, 0, 0, n - 1, 0, (x, c) -> x.paid(c, 60));
            bounds("waited of " + n, of, 0, 0, n - 1, n - 1, (x, c) -> x.waited(c, 60));
            bounds("done of " + n, of, 0, 3, n - 1, 2 + n, WheelsWidths::done);
            bounds("way of " + n, of, 0, 3, n - 1, 3, (x, c) -> x.way(c, 0, 1));
            bounds("can of " + n, of, 0, 2047, n - 1, 2047, WheelsWidths::can);
        }
        bad("where of none", WheelsWidths::new, (x, c) -> x.where(c, 0), 0, -1, LEAST, MOST);
        bad("paid of none", WheelsWidths::new, (x, c) -> x.paid(c, 0), 0, -1, LEAST, MOST);
        bad("waited of none", WheelsWidths::new, (x, c) -> x.waited(c, 0), 0, -1, LEAST, MOST);
        bad("done of none", WheelsWidths::new, WheelsWidths::done, 0, -1, LEAST, MOST);
        bad("way of none", WheelsWidths::new, (x, c) -> x.way(c, 0, 0), 0, -1, LEAST, MOST);
        bad("can of none", WheelsWidths::new, WheelsWidths::can, 0, -1, LEAST, MOST);
    }

    private static void hoursOfRuns() {
        // a sledge that comes to its goal in hour 60, and a cart that waits from hour 1 on
        Maker road = () -> Scene.told("yards 20;toll 1 0 5;toll 20 0 7;rut 3 1 31;cart sledge 0 1 0 0 20 20;cart plain 1 1 30 2 4 0;");
        bounds("where", road, 0, 0, 60, 20, (x, h) -> x.where(0, h));
        taken("where", road, 59, 19, (x, h) -> x.where(0, h));
        bounds("paid", road, 0, 0, 60, 12, (x, h) -> x.paid(0, h));
        bounds("waited", road, 0, 0, 60, 60, (x, h) -> x.waited(1, h));
        bounds("jam", road, 1, 2, 60, 2, WheelsWidths::jam);
        bounds("jam without carts", WheelsWidths::new, 1, 0, 60, 0, WheelsWidths::jam);
    }

    private static void depth() {
        int[] lasts = {2, 10, 20};
        for (int last : lasts) bounds("depth yard", () -> Scene.yards(last), 0, 0, last, 0, (x, y) -> x.depth(y, 0, 60));
        Maker road = () -> Scene.told("frost 1;frost 60;rut 3 0 5;rut 3 2 99;");
        bounds("depth width", road, 0, 3, 2, 97, (x, w) -> x.depth(3, w, 60));
        bounds("depth hour", road, 0, 99, 60, 97, (x, h) -> x.depth(3, 2, h));
        taken("depth hour", road, 1, 98, (x, h) -> x.depth(3, 2, h));
        taken("depth hour", road, 59, 98, (x, h) -> x.depth(3, 2, h));
        Maker hill = () -> Scene.told("hill 3 1;");
        bounds("depth on a hill", hill, 0, NONE, 2, NONE, (x, w) -> x.depth(3, w, 0));
        taken("depth on a hill", hill, 1, 0, (x, w) -> x.depth(3, w, 0));
        bounds("depth on a hill, hour", hill, 0, NONE, 60, NONE, (x, h) -> x.depth(3, 0, h));
    }

    private static void deepest() {
        Maker road = () -> Scene.told("frost 1;frost 60;rut 10 2 99;");
        bounds("deepest", road, 0, 99, 60, 97, (x, h) -> x.deepest(h, 0));
        bounds("deepest, where", road, 0, 32, 60, 32, (x, h) -> x.deepest(h, 1));
        bounds("deepest what", road, 0, 99, 1, 32, (x, what) -> x.deepest(0, what));
        bounds("deepest of a new one", WheelsWidths::new, 0, 0, 1, 0, (x, what) -> x.deepest(60, what));
        taken("deepest of yard 20", () -> Scene.told("yards 20;rut 20 2 1;"), 1, 62, (x, what) -> x.deepest(0, what));
        taken("deepest of yard 0", () -> Scene.told("yards 20;rut 0 0 1;rut 20 2 1;"), 1, 0, (x, what) -> x.deepest(0, what));
    }

    private static void go() {
        Maker road = () -> Scene.told("yards 20;cart sledge 0 1 0 0 20 20;cart plain 1 1 30 2 4 0;");
        bounds("go", road, 0, 2, 60, 0, WheelsWidths::go);
        taken("go", road, 59, 1, WheelsWidths::go);
        taken("go", road, 2, 1, WheelsWidths::go);
        taken("go", road, 1, 2, WheelsWidths::go);
        bounds("go without carts", WheelsWidths::new, 0, 0, 60, 0, WheelsWidths::go);
        taken("go and ask for the start", road, 0, 0, (x, h) -> x.go(h) == BAD ? BAD : x.cart(0, 6));
        taken("go and ask for the start", road, 59, 0, (x, h) -> x.go(h) == BAD ? BAD : x.cart(0, 6));
    }

    // ---- orders, mending, ways

    private static void order() {
        for (int n = 1; n <= 5; n++) {
            int carts = n;
            int sum = 3 * n + n * (n - 1) / 2;
            Maker of = () -> Scene.carts(carts);
            bounds("order of " + n, of, 0, sum, 0, sum, WheelsWidths::order);
            bounds("order of " + n, of, 10, 0, 9 + n, n - 1, WheelsWidths::order);
            bad("order of " + n, of, WheelsWidths::order, 2, 9, 15, 16, 20, LEAST + 9, LEAST + 10, LEAST + 14);
        }
        taken("order of none", WheelsWidths::new, 0, STATE, WheelsWidths::order);
        bad("order of none", WheelsWidths::new, WheelsWidths::order, -1, 1, 9, 10, 11, LEAST, MOST);
        Maker stuck = () -> Scene.told("cart plain 0 1 0 0 2 0;rut 1 0 1;");
        bounds("order where none are", stuck, 0, NONE, 0, NONE, WheelsWidths::order);
        bounds("order where none are", stuck, 10, NONE, 10, NONE, WheelsWidths::order);
    }

    private static void mend() {
        Maker two = () -> Scene.told("rut 1 0 1;rut 2 0 1;cart plain 0 1 0 0 2 0;");
        bounds("mend two", two, 0, 2, 2, 2, WheelsWidths::mend);
        taken("mend two", two, 1, 1, WheelsWidths::mend);
        Maker one = () -> Scene.told("rut 2 0 1;cart plain 0 1 0 0 2 0;");
        bounds("mend one", one, 0, 1, 2, NONE, WheelsWidths::mend);
        taken("mend one", one, 1, 2, WheelsWidths::mend);
        bounds("mend none", () -> Scene.carts(1), 0, 0, 2, NONE, WheelsWidths::mend);
        taken("mend none", () -> Scene.carts(1), 1, NONE, WheelsWidths::mend);
        Maker three = () -> Scene.told("rut 1 0 1;rut 2 0 1;rut 3 0 1;cart plain 0 1 0 0 3 0;");
        bounds("mend three", three, 0, NONE, 2, NONE, WheelsWidths::mend);
        bounds("mend without carts", WheelsWidths::new, 0, 0, 2, NONE, WheelsWidths::mend);
    }

    private static void way() {
        Maker road = () -> Scene.told("smith 0 2;toll 2 1 3;hill 2 1;cart plain 0 1 0 0 2 0;cart plain 2 1 0 0 2 0;");
        bounds("way by", road, 0, 5, 1, 5, (x, by) -> x.way(0, by, 0));
        int[] answers = {5, 3, 3};
        for (int what = 0; what < 3; what++) taken("way what", road, what, answers[what], (x, of) -> x.way(0, 0, of));
        bad("way what", road, (x, what) -> x.way(0, 1, what), -1, 3, 4, 8, 9, LEAST, LEAST + 9, LEAST + 10);
        int[] acts = {3, 0, 0, NONE, NONE};
        for (int k = 0; k < acts.length; k++) taken("way act", road, 10 + k, acts[k], (x, what) -> x.way(0, 1, what));
        taken("way act", road, MOST, NONE, (x, what) -> x.way(0, 1, what));
        Maker none = () -> Scene.told("hill 2 1;cart plain 0 1 0 0 2 0;");
        int[] whats = {0, 1, 2, 10, 11, MOST};
        for (int what : whats) taken("no way", none, what, NONE, (x, of) -> x.way(0, 0, of));
        bad("no way", none, (x, what) -> x.way(0, 0, what), -1, 3, 9, LEAST);
        bad("no way by", none, (x, by) -> x.way(0, by, 0), -1, 2, LEAST, MOST);
    }

    // ---- treaties

    private static void costs() {
        Maker road = () -> Scene.told("cost 1 11;cost 7 17;");
        bounds("cost", road, 1, 11, 7, 17, WheelsWidths::cost);
        bounds("price peoples", road, 1, 11, 7, 17, (x, some) -> x.price(some, 3));
        bounds("price", road, 0, 17, 60, 17, (x, v) -> x.price(7, v));
        bounds("price and ask", road, 0, 0, 60, 60, (x, v) -> x.price(7, v) == BAD ? BAD : x.cost(7));
        bounds("price of one people and ask", road, 0, 0, 60, 60, (x, v) -> x.price(1, v) == BAD ? BAD : x.cost(1));
        bounds("shares", road, 0, 0, 1, NONE, WheelsWidths::shares);
        bounds("shares of nothing", WheelsWidths::new, 0, 1, 1, 0, WheelsWidths::shares);
        // shares begin at 0, also where one could pay less than that and the others more
        bounds("shares of 30", BoundsTest::dear, 0, 31 * 32 / 2, 1, 30, WheelsWidths::shares);
    }

    private static void firm() {
        Maker all = () -> Scene.told("cost 1 60;cost 2 60;cost 3 60;cost 4 60;cost 5 60;cost 6 60;cost 7 60;");
        bounds("firm a", all, 0, 0, 60, 1, (x, a) -> x.firm(a, 0, 0));
        bounds("firm b", all, 0, 0, 60, 1, (x, b) -> x.firm(0, b, 0));
        bounds("firm c", all, 0, 0, 60, 1, (x, c) -> x.firm(0, 0, c));
        bounds("firm a, the others 60", all, 0, 0, 60, 0, (x, a) -> x.firm(a, 60, 60));
        for (int some = 1; some < 7; some++) firmBelow(some);
        T.due("firm, one too few", dear().firm(10, 10, 9), 0);
        T.due("firm, all", dear().firm(10, 10, 10), 1);
        T.due("firm, one too many", dear().firm(10, 10, 11), 0);
    }

    /** Some peoples pay together as much as their own cost, which is 20, or one more. */
    private static void firmBelow(int some) {
        for (int more = 0; more <= 1; more++) {
            WheelsWidths x = dear();
            x.price(some, 20);
            int many = Integer.bitCount(some);
            int[] pay = new int[3];
            for (int i = 0; i < 3; i++) pay[i] = (some >> i & 1) == 1 ? 20 / many : 10 / (3 - many);
            pay[Integer.numberOfTrailingZeros(some)] += more;
            pay[Integer.numberOfTrailingZeros(~some)] -= more;
            T.due("firm of " + some + ", more " + more, x.firm(pay[0], pay[1], pay[2]), 1 - more);
        }
    }

    /** All costs are 60, but that of all together is 30. */
    private static WheelsWidths dear() {
        return Scene.told("cost 1 60;cost 2 60;cost 3 60;cost 4 60;cost 5 60;cost 6 60;cost 7 30;");
    }

    // ---- tracks

    private static void tracks() {
        int[] lasts = {2, 10, 20};
        for (int last : lasts) {
            bounds("track yard", () -> Scene.yards(last), 0, 1, last, 1, (x, y) -> x.track(y, 1));
            bounds("whose", () -> Scene.yards(last), 0, 0, last, 0, WheelsWidths::whose);
        }
        bounds("track width", WheelsWidths::new, 0, 1, 2, 1, (x, w) -> x.track(4, w));
        for (int n = 0; n <= 8; n++) {
            int many = n;
            bounds("forget of " + n, () -> tracks(many), 0, n, n, n, WheelsWidths::forget);
            bounds("forget and count of " + n, () -> tracks(many), 0, 0, n, n, (x, v) -> x.forget(v) == BAD ? BAD : x.count(2));
        }
    }

    private static WheelsWidths tracks(int many) {
        WheelsWidths x = new WheelsWidths();
        for (int i = 0; i < many; i++) x.track(1, 0);
        return x;
    }

    private static void orders() {
        int[] all = {1, 1, 2, 6, 24, 120};
        for (int n = 0; n <= 5; n++) {
            int carts = n;
            Maker of = () -> Scene.carts(carts);
            bounds("orders of " + n, of, 0, all[n], 0, all[n], WheelsWidths::orders);
            if (n > 0) bounds("orders of " + n, of, 10, 0, 9 + n, n - 1, WheelsWidths::orders);
            bad("orders of " + n, of, WheelsWidths::orders, 2, 9, 10 + n, 15, 16, 20, LEAST + 9, LEAST + 10, LEAST + 14);
        }
        Maker none = () -> trackOf("cart plain 0 1 30 0 3 0;", 3, 1);
        bounds("orders that fit not", none, 0, 0, 0, 0, WheelsWidths::orders);
        bounds("orders that fit not", none, 10, NONE, 10, NONE, WheelsWidths::orders);
    }

    private static WheelsWidths trackOf(String text, int y, int w) {
        WheelsWidths x = Scene.told(text);
        x.track(y, w);
        return x;
    }

    // ---- images, sheets

    private static void imagesKept() {
        bounds("keep", WheelsWidths::new, 0, 0, 1, 0, WheelsWidths::keep);
        bounds("keep again", BoundsTest::kept, 0, 1, 1, 1, WheelsWidths::keep);
        bounds("back to none", WheelsWidths::new, 0, STATE, 1, STATE, WheelsWidths::back);
        bounds("back", BoundsTest::kept, 0, 2, 1, 2, WheelsWidths::back);
    }

    private static WheelsWidths kept() {
        WheelsWidths x = Scene.carts(2);
        x.keep(0);
        x.keep(1);
        return x;
    }

    private static void sheets() {
        Maker made = WheelsWidths::new;
        bounds("sheet", made, 0, 1, 3, 1, (x, k) -> x.sheet(k, 0, 3));
        bounds("sheet lane", made, 0, 1, 2, 1, (x, lane) -> x.sheet(0, lane, 3));
        int[] sizes = {0, 1, 39, 40};
        for (int n : sizes) {
            taken("sheet cells", made, n, 1, (x, size) -> x.sheet(3, 2, size));
            taken("sheet cells", made, n, n, (x, size) -> x.sheet(0, 1, size) * x.count(5));
        }
        bad("sheet cells", made, (x, n) -> x.sheet(0, 0, n), 41, 42, MOST);
        int[] below = {-1, -2, -40, LEAST};
        for (int n : below) taken("sheet cells", made, n, -14, (x, size) -> x.sheet(0, 0, size));
    }

    /** A new row, all of it 0, whatever was there; the other sheets stay. */
    private static void sheetsAnew() {
        for (int k = 0; k < 4; k++) {
            for (int n = 2; n <= 40; n += 38) {
                WheelsWidths x = new WheelsWidths();
                for (int other = 0; other < 4; other++) Scene.sheet(x, other, 2, 40, MOST);
                for (int other = 0; other < 4; other++) x.lay(other, 39, MOST);
                for (int i = 0; i < 40; i++) x.lay(k, i, LEAST);
                T.due("sheet anew", x.sheet(k, 1, n), 1);
                for (int f = 0; f + 2 <= n; f++) T.due("read anew", x.read(k, 1, f, 1), f < 8 ? 1 : -20);
                x.forget(0);
                for (int other = 0; other < 4; other++) {
                    if (other != k) T.due("the others' ends", x.read(other, 2, 0, 1) * 100 + x.read(other, 2, 38, 1), -2020);
                    if (other != k) T.due("the others' rest", x.read(other, 2, 1, 8), 8);
                    x.forget(0);
                }
            }
        }
        // cells of 0 tell a track of width 0 in yard 0: a cart of that width fits it, one of width 1 does not
        for (int w = 0; w < 2; w++) {
            WheelsWidths x = Scene.told("cart plain " + w + " 1 0 1 0 0;");
            x.sheet(0, 0, 2);
            x.read(0, 0, 0, 1);
            T.due("a track of 0 and 0", x.orders(0), 1 - w);
        }
    }

    private static void lay() {
        Maker three = () -> sheetsOf(3);
        bounds("lay", three, 0, 1, 3, 1, (x, k) -> x.lay(k, 0, 0));
        bounds("lay nothing", WheelsWidths::new, 0, -11, 3, -11, (x, k) -> x.lay(k, 0, 0));
        int[] sizes = {0, 1, 3, 40};
        for (int n : sizes) {
            Maker of = () -> sheetsOf(n);
            int[] out = {-1, n, n + 1, LEAST, MOST};
            for (int i : out) taken("lay of " + n, of, i, -12, (x, cell) -> x.lay(2, cell, 0));
            if (n > 0) taken("lay of " + n, of, 0, 1, (x, cell) -> x.lay(2, cell, 0));
            if (n > 0) taken("lay of " + n, of, n - 1, 1, (x, cell) -> x.lay(2, cell, 0));
        }
        int[] out = {-1, 0, 1, 40, LEAST, MOST};
        for (int i : out) taken("lay nothing", WheelsWidths::new, i, -11, (x, cell) -> x.lay(0, cell, 0));
        lowestBits();
    }

    /** A cell keeps the lowest bits, with a sign: read as a yard up to 20, 1 where it is taken, -20 where not. */
    private static void lowestBits() {
        int[] cells = {0, 20, 21, 127, 128, 255, 256, 276, 277, 511, 512, -1, -128, -236, -235, -256, 32767, 32768, 65535,
            65536, 65556, 65557, -65536, -65516, -65515, LEAST, LEAST + 20, LEAST + 21, MOST, MOST - 235};
        for (int v : cells) {
            int[] cut = {(byte) v, (short) v, v};
            for (int lane = 0; lane < 3; lane++) {
                WheelsWidths x = Scene.yards(20);
                x.sheet(1, lane, 2);
                T.due("lay " + v, x.lay(1, 0, v), 1);
                T.due("read " + v + " of lane " + lane, x.read(1, lane, 0, 1), cut[lane] >= 0 && cut[lane] <= 20 ? 1 : -20);
                T.due("torn", x.torn(), 0);
            }
        }
    }

    /** Sheets of n cells each, 0 of bytes, 1 of shorts, 2 and 3 of ints. */
    private static WheelsWidths sheetsOf(int n) {
        WheelsWidths x = new WheelsWidths();
        for (int k = 0; k < 4; k++) x.sheet(k, Math.min(k, 2), n);
        return x;
    }

    private static void read() {
        Maker forty = () -> sheetsOf(40);
        bounds("read", forty, 0, 0, 3, 0, (x, k) -> x.read(k, k == 0 ? 2 : 0, 0, 1));
        bounds("read nothing", WheelsWidths::new, 0, 0, 3, 0, (x, k) -> x.read(k, 0, 0, 1));
        bounds("read lane", forty, 0, 0, 2, 2, (x, lane) -> x.read(2, lane, 0, 2));
        bounds("read n", forty, 0, 0, 8, 8, (x, n) -> x.read(0, 0, 0, n));
        bounds("read n of nothing", WheelsWidths::new, 0, 0, 8, 0, (x, n) -> x.read(0, 0, 0, n));
        int[] from = {0, 24, 25, 26, 36, 37, 38, 39, 40, 41, -1, -2, -3, LEAST, LEAST + 1, MOST, MOST - 1, MOST - 16};
        int[] came = {8, 8, 7, 7, 2, 1, 1, 0, 0, 0, 0, 0, 0, 0, 0, 0, 0, 0};
        for (int i = 0; i < from.length; i++) {
            WheelsWidths x = sheetsOf(40);
            T.due("read from " + from[i], x.read(1, 1, from[i], 8), came[i]);
            T.due("torn from " + from[i], x.torn(), came[i] < 8 ? 2 : 0);
            T.due("tracks from " + from[i], x.count(2), came[i]);
        }
        for (int f : from) {
            WheelsWidths x = sheetsOf(40);
            x.read(1, 1, -1, 1);
            T.due("read none from " + f, x.read(1, 1, f, 0), 0);
            T.due("torn by none from " + f, x.torn(), 0);
        }
    }

    /** NULL ahead of all, CAST ahead of INDEX, wherever the cells are asked for. */
    private static void torn() {
        int[] from = {0, -1, 1, 39, 40, LEAST, MOST};
        for (int f : from) {
            for (int lane = 0; lane < 3; lane++) {
                tornBy("nothing", new WheelsWidths(), lane, f, 1);
                tornBy("no cells", sheetsOf(0), lane, f, lane == 1 ? 2 : 3);
                tornBy("one cell", sheetsOf(1), lane, f, lane == 1 ? 2 : 3);
                if (lane != 1 || f < 0 || f >= 39) tornBy("40 cells", sheetsOf(40), lane, f, lane == 1 ? 2 : 3);
            }
        }
    }

    private static void tornBy(String name, WheelsWidths x, int lane, int f, int fault) {
        for (int n = 1; n <= 8; n += 7) {
            T.due("read of " + name + " from " + f, x.read(1, lane, f, n), 0);
            T.due("torn of " + name + " by lane " + lane + " from " + f, x.torn(), fault);
        }
        T.due("read none of " + name, x.read(1, lane, f, 0), 0);
        T.due("torn by none of " + name, x.torn(), 0);
        T.due("tracks of " + name, x.count(2), 0);
    }

    private static void count() {
        bounds("count", () -> Scene.yards(20), 0, 20, 5, NONE, WheelsWidths::count);
        bounds("count", Scene::full, 0, 6, 5, 40, WheelsWidths::count);
        int[] full = {6, 5, 8, 1, 400, 40};
        WheelsWidths x = Scene.full();
        for (int what = 0; what < full.length; what++) T.due("count " + what, x.count(what), full[what]);
        int[] made = {10, 0, 0, 0, 0, NONE};
        x = new WheelsWidths();
        for (int what = 0; what < made.length; what++) T.due("count " + what, x.count(what), made[what]);
    }

    /** Where two answers fit, BAD is the first. */
    private static void badComesFirst() {
        WheelsWidths x = Scene.full();
        T.due("dig, no rut", x.dig(5, 0, 100), BAD);
        T.due("dig, no rut", x.dig(5, 0, 1), STATE);
        T.due("shoe, hired", x.shoe(3, 3), BAD);
        T.due("shoe, hired", x.shoe(3, 0), STATE);
        T.due("depth, no rut", x.depth(5, 0, 61), BAD);
        T.due("depth, no rut", x.depth(5, 0, 60), NONE);
        T.due("yard, no rut", x.yard(7, 10), BAD);
        T.due("yard, no rut", x.yard(5, 10), NONE);
        T.due("track, full", x.track(7, 0), BAD);
        T.due("track, full", x.track(0, 3), BAD);
        T.due("back, none", x.back(2), BAD);
        T.due("sheet, size", x.sheet(4, 0, -1), BAD);
        T.due("sheet, size", x.sheet(0, 3, -1), BAD);
        T.due("lay, nothing", x.lay(4, 0, 0), BAD);
        T.due("read, nothing", x.read(3, 3, 0, 1), BAD);
        T.due("read, nothing", x.read(3, 0, 0, 9), BAD);
        T.due("read, refused", x.read(0, 0, 2, 9), BAD);
        T.due("read, none asked", x.read(4, 0, 0, 0), BAD);
        T.due("read, none asked", x.read(0, 3, 0, 0), BAD);
        x = new WheelsWidths();
        T.due("order, no carts", x.order(10), BAD);
        T.due("order, no carts", x.order(0), STATE);
    }
}
