/** Each promise by hand: ordinary calls, the edges that the document names, and wrong arguments. */
public final class PromisesTest {
    private static final int BAD = -1, STATE = -2, FULL = -3, NONE = -4;
    private static final Check T = new Check();

    public static void main(String[] args) {
        newObject();
        feedAndEnd();
        textTokens();
        textLines();
        textNumbers();
        textTwice();
        textBehindAll();
        textKeepsAndClears();
        yardCartFrost();
        changes();
        runPlain();
        runKinds();
        runFrostAndDepth();
        runBogAndHill();
        jamAndDeepest();
        goOn();
        bestOrder();
        planning();
        mending();
        wayPlain();
        wayKinds();
        canCome();
        treaties();
        trackRows();
        fittingOrders();
        images();
        sheets();
        readTracks();
        counts();
        T.finish("PromisesTest");
    }

    private static void newObject() {
        WheelsWidths x = new WheelsWidths();
        T.due("new count(0)", x.count(0), 10);
        for (int what = 1; what <= 4; what++) T.due("new count(" + what + ")", x.count(what), 0);
        T.due("new count(5)", x.count(5), NONE);
        T.due("new fault", x.fault(), 0);
        T.due("new torn", x.torn(), 0);
        for (int y = 0; y <= 10; y++) {
            T.due("new ruts", x.yard(y, 0), 7);
            T.due("new bog", x.yard(y, 1), 0);
            T.due("new smith", x.yard(y, 2), NONE);
            for (int w = 0; w < 3; w++) {
                T.due("new depth", x.yard(y, 10 + w), 0);
                T.due("new toll", x.yard(y, 20 + w), 0);
            }
        }
        T.due("new yard 11", x.yard(11, 0), BAD);
        for (int h = 1; h <= 60; h++) T.due("new frost", x.frost(h), 0);
        for (int some = 1; some <= 7; some++) T.due("new cost", x.cost(some), 0);
        T.due("new back", x.back(0), STATE);
        T.due("new lay", x.lay(3, 0, 1), -11);
    }

    private static void feedAndEnd() {
        WheelsWidths x = new WheelsWidths();
        for (int n = 8; n <= 400; n += 8) T.due("feed", x.feed(n), n);
        T.due("feed over", x.feed(1), FULL);
        T.due("count(4)", x.count(4), 400);
        T.due("end(401)", x.end(401), BAD);
        T.due("end(-1)", x.end(-1), BAD);
        T.due("end(393)", x.end(393), 400);
        T.due("feed to 401", x.feed(1), FULL);
        T.due("end(392)", x.end(392), 393);
        T.due("feed to 400", x.feed(1), 400);
        T.due("end(0)", x.end(0), 400);
        T.due("end(1) of none", x.end(1), BAD);
        x.feed(1);
        T.due("end(8) of 8", x.end(8), 8);
        x.end(0);
        // the highest byte first: "bog 3;  "
        T.due("feed", x.feed(0x626F6720333B2020L), 8);
        T.due("text", x.text(), 1);
        T.due("bog", x.yard(3, 1), 1);
        T.due("tape", x.count(4), 0);
        // a byte above 127 is no token
        T.due("feed", x.feed(0xFFL << 56), 8);
        T.due("text", x.text(), -10);
        T.due("fault", x.fault(), 1);
    }

    private static void textTokens() {
        WheelsWidths x = T.told("");
        T.due("empty fault", x.fault(), 0);
        Check.put(x, "        ");
        T.due("blank", x.text(), 0);
        Check.put(x, "bog3;hill4 1;cart plain0 1 2 3 4 5;  frost   07 ;cost7 09;");
        T.due("close", x.text(), 5);
        T.due("axle", x.cart(0, 3), 2);
        T.due("07", x.frost(7), 1);
        T.due("09", x.cost(7), 9);
        T.refused("bog.3;", 3, 1);
        T.refused("bog 3:", 5, 1);
        T.refused("bog 3\n;", 5, 1);
        T.refused("Bog 3;", 0, 1);
        T.refused("bog 003;", 4, 1);
        T.refused("  123", 2, 1);
        T.refused("bog -3;", 4, 1);
        T.refused("bog 25.", 4, 3);
        T.refused("bog 3;" + (char) 233, 6, 1);
    }

    private static void textLines() {
        T.refused(";", 0, 2);
        T.refused("3", 0, 2);
        T.refused("bogs 3;", 0, 2);
        T.refused("bop 3;", 0, 2);
        T.refused("zog 3;", 0, 2);
        T.refused("cart .", 5, 1);
        T.refused("cart 123", 5, 1);
        T.refused("bo 3;", 0, 2);
        T.refused("bog", 3, 2);
        T.refused("bog  ", 5, 2);
        T.refused("bog bog 3;", 4, 2);
        T.refused("bog;", 3, 2);
        T.refused("bog 3 3;", 6, 2);
        T.refused("bog 3", 5, 2);
        T.refused("bog 3;;", 6, 2);
        T.refused("plain 3;", 0, 2);
        T.refused("cart 0 1 2 3 4 5;", 5, 2);
        T.refused("cart bog 0 1 2 3 4 5;", 5, 2);
        T.refused("cart;", 4, 2);
        T.refused("cart plain 0 1 2 3 4;", 20, 2);
        T.refused("cart plain 0 1 2 3 4 5 6;", 23, 2);
        T.refused("cartplain 0 1 2 3 4 5;", 0, 2);
        T.refused("yards 5 yards", 8, 2);
        T.refused("toll 1 1;", 8, 2);
    }

    private static void textNumbers() {
        T.refused("yards 1;", 6, 3);
        T.refused("yards 21;", 6, 3);
        T.refused("bog 21;", 4, 3);
        T.refused("hill 21 0;", 5, 3);
        T.refused("hill 1 3;", 7, 3);
        T.refused("smith 21 0;", 6, 3);
        T.refused("toll 21 0 0;", 5, 3);
        T.refused("smith 1 10;", 8, 3);
        T.refused("toll 1 3 0;", 7, 3);
        T.refused("toll 1 2 10;", 9, 3);
        T.refused("rut 21 0 0;", 4, 3);
        T.refused("rut 1 3 0;", 6, 3);
        T.refused("frost 0;", 6, 3);
        T.refused("frost 61;", 6, 3);
        T.refused("cost 0 0;", 5, 3);
        T.refused("cost 8 0;", 5, 3);
        T.refused("cost 7 61;", 7, 3);
        T.refused("cart plain 3 1 0 0 1 0;", 11, 3);
        T.refused("cart plain 0 0 0 0 1 0;", 13, 3);
        T.refused("cart plain 0 10 0 0 1 0;", 13, 3);
        T.refused("cart plain 0 1 31 0 1 0;", 15, 3);
        T.refused("cart plain 0 1 0 21 1 0;", 17, 3);
        T.refused("cart plain 0 1 0 0 21 0;", 19, 3);
        T.refused("cart plain 0 1 0 0 1 21;", 21, 3);
        WheelsWidths x = T.told("yards 20;bog 20;hill 20 2;smith 20 9;toll 20 2 9;rut 20 2 99;frost 1;frost 60;"
            + "cost 1 60;cost 7 60;cart smuggler 2 9 30 20 0 20;");
        T.due("count(0)", x.count(0), 20);
        T.due("bog 20", x.yard(20, 1), 1);
        T.due("depth 99", x.yard(20, 12), 99);
        T.due("toll 9", x.yard(20, 22), 9);
        T.due("smith 9", x.yard(20, 2), 9);
        T.due("frost 60", x.frost(60), 1);
        T.due("cost 60", x.cost(7), 60);
        T.due("start 20", x.cart(0, 6), 20);
    }

    private static void textTwice() {
        T.refused("yards 5;yards 5;", 8, 4);
        T.refused("yards 5;yards", 8, 4);
        T.refused("bog 1;bog 1;", 10, 4);
        T.refused("hill 1 0;hill 1 9;", 14, 4);
        T.refused("smith 1 0;smith 1 0;", 16, 4);
        T.refused("frost 5;frost 5;", 14, 4);
        T.refused("cost 3 0;cost 3 0;", 14, 4);
        T.refused("cart plain 0 1 0 4 4 99;", 19, 4);
        T.refused("bog 19;bog 19;", 11, 4);
        T.refused("bog 21;bog 21;", 4, 3);
        String five = "";
        for (int i = 0; i < 5; i++) five += "cart plain 0 1 0 0 1 0;";
        T.refused(five + "cart", 115, 5);
        T.refused(five + "carts", 115, 2);
        T.due("five", T.told(five).count(1), 5);
        WheelsWidths x = T.told("toll 1 0 3;toll 1 0 4;rut 1 0 3;rut 1 0 4;bog 1;hill 2 0;smith 1 0;hill 1 0;");
        T.due("toll told again", x.yard(1, 20), 4);
        T.due("rut told again", x.yard(1, 10), 4);
        T.due("all in one yard", x.yard(1, 0) + x.yard(1, 1) + x.yard(1, 2), 2);
    }

    private static void textBehindAll() {
        T.refused("bog 11;", 7, 6);
        T.refused("hill 11 0;  ", 12, 6);
        T.refused("smith 11 0;", 11, 6);
        T.refused("toll 11 0 0;", 12, 6);
        T.refused("rut 11 0 0;", 11, 6);
        T.refused("cart plain 0 1 0 11 1 0;", 24, 6);
        T.refused("cart plain 0 1 0 1 11 0;", 24, 6);
        T.refused("bog 3;yards 2;", 14, 6);
        T.refused("bog 11;x", 7, 2);
        T.refused("hill 1 0;rut 1 1 0;", 19, 7);
        T.refused("rut 1 1 0;hill 1 0;", 19, 7);
        T.refused("rut 0 0 0;hill 0 1;", 19, 7);
        T.refused("rut 1 1 0;hill 1 0;bog 11;", 26, 6);
        T.refused("hill 20 1;yards 20;rut 20 2 1;", 30, 7);
        T.due("toll on a hill", T.told("hill 1 0;toll 1 1 5;rut 1 0 3;").yard(1, 21), 5);
        T.due("yards behind", T.told("bog 11;yards 11;").yard(11, 1), 1);
    }

    private static void textKeepsAndClears() {
        WheelsWidths x = T.told("yards 4;bog 1;smith 1 2;hill 2 1;toll 1 1 1;rut 1 1 4;frost 9;"
            + "cart plain 1 1 9 0 4 0;cost 2 5;");
        x.track(1, 1);
        x.keep(1);
        x.sheet(0, 1, 7);
        Check.put(x, "yards 5;bog 9");
        T.due("refused", x.text(), -23);
        T.due("fault", x.fault(), 2);
        T.due("tape is empty", x.count(4), 0);
        T.due("yards stay", x.count(0), 4);
        T.due("carts stay", x.count(1), 1);
        T.due("tracks stay", x.count(2), 1);
        T.due("images stay", x.count(3), 1);
        T.due("done stays", x.done(0), 4);
        T.due("empty text", x.text(), 0);
        T.due("fault 0", x.fault(), 0);
        T.due("yards 10", x.count(0), 10);
        T.due("carts gone", x.count(1), 0);
        T.due("tracks gone", x.count(2), 0);
        T.due("images gone", x.count(3), 0);
        T.due("back", x.back(1), STATE);
        T.due("sheets stay", x.count(5), 7);
        T.due("bog gone", x.yard(1, 1), 0);
        T.due("smith gone", x.yard(1, 2), NONE);
        T.due("hill gone", x.yard(2, 0), 7);
        T.due("toll gone", x.yard(1, 21), 0);
        T.due("rut gone", x.yard(1, 11), 0);
        T.due("frost gone", x.frost(9), 0);
        T.due("cost gone", x.cost(2), 0);
    }

    private static void yardCartFrost() {
        WheelsWidths x = T.told("yards 4;hill 2 1;smith 3 0;toll 2 0 6;rut 2 1 7;frost 2;cart hired 1 2 3 4 0 6;");
        T.due("ruts of a hill", x.yard(2, 0), 2);
        T.due("no rut", x.yard(2, 10), NONE);
        T.due("rut", x.yard(2, 11), 7);
        T.due("toll", x.yard(2, 20), 6);
        T.due("smith 0", x.yard(3, 2), 0);
        int[] badWhats = {-1, 3, 9, 13, 19, 23, Integer.MIN_VALUE, Integer.MAX_VALUE};
        for (int what : badWhats) T.due("yard what " + what, x.yard(2, what), BAD);
        T.due("yard -1", x.yard(-1, 0), BAD);
        T.due("yard 5", x.yard(5, 0), BAD);
        int[] parts = {3, 1, 2, 3, 4, 0, 6};
        for (int what = 0; what < 7; what++) T.due("cart part " + what, x.cart(0, what), parts[what]);
        T.due("cart 7", x.cart(0, 7), BAD);
        T.due("cart what -1", x.cart(0, -1), BAD);
        T.due("cart 1", x.cart(1, 0), BAD);
        T.due("cart -1", x.cart(-1, 6), BAD);
        T.due("frost 2", x.frost(2), 1);
        T.due("frost 1", x.frost(1), 0);
        T.due("frost 0", x.frost(0), BAD);
        T.due("frost 61", x.frost(61), BAD);
        String kinds = "plain double sledge hired smuggler ";
        for (int kind = 0; kind < 5; kind++) {
            String name = kinds.split(" ")[kind];
            T.due(name, T.told("cart " + name + " 0 1 0 0 1 0;").cart(0, 0), kind);
        }
    }

    private static void changes() {
        WheelsWidths x = T.told("yards 3;hill 1 2;rut 1 2 8;rut 2 0 3;rut 2 1 9;cart hired 0 1 0 0 1 0;cart plain 0 2 0 0 1 0;");
        T.due("dig", x.dig(1, 2, 99), 8);
        T.due("dig again", x.dig(1, 2, 0), 99);
        T.due("dig no rut", x.dig(1, 1, 3), STATE);
        T.due("dig bad depth, no rut", x.dig(1, 1, 100), BAD);
        T.due("dig -1", x.dig(1, 2, -1), BAD);
        T.due("dig yard", x.dig(4, 2, 1), BAD);
        T.due("dig width", x.dig(2, 3, 1), BAD);
        T.due("fill", x.fill(2), 9);
        T.due("filled", x.yard(2, 10) + x.yard(2, 11), 0);
        T.due("fill again", x.fill(2), 0);
        T.due("fill bad", x.fill(4), BAD);
        T.due("shoe hired", x.shoe(0, 0), STATE);
        T.due("shoe hired bad", x.shoe(0, 3), BAD);
        T.due("shoe", x.shoe(1, 2), 0);
        T.due("shoe again", x.shoe(1, 2), 2);
        T.due("shoe cart", x.shoe(2, 0), BAD);
        T.due("load", x.load(1, 9), 2);
        T.due("load again", x.load(1, 1), 9);
        T.due("load 0", x.load(1, 0), BAD);
        T.due("load 10", x.load(1, 10), BAD);
        T.due("load cart", x.load(-1, 1), BAD);
        T.due("freeze", x.freeze(60, true), 0);
        T.due("freeze again", x.freeze(60, true), 1);
        T.due("frost", x.frost(60), 1);
        T.due("thaw", x.freeze(60, false), 1);
        T.due("thaw again", x.freeze(60, false), 0);
        T.due("freeze 0", x.freeze(0, true), BAD);
        T.due("freeze 61", x.freeze(61, true), BAD);
        T.due("no frost", x.frost(60), 0);
    }

    private static void runPlain() {
        WheelsWidths x = T.told("yards 6;toll 2 1 3;toll 3 1 4;toll 1 1 5;cart plain 1 4 9 1 3 2;cart plain 1 4 3 0 3 0;");
        T.due("waits for its start", x.where(0, 2), 1);
        T.due("goes", x.where(0, 3), 2);
        T.due("comes", x.where(0, 4), 3);
        T.due("stays", x.where(0, 60), 3);
        T.due("where 61", x.where(0, 61), BAD);
        T.due("where -1", x.where(0, -1), BAD);
        T.due("where cart", x.where(2, 0), BAD);
        T.due("waits behind it", x.where(1, 2), 0);
        T.due("follows when it has gone", x.where(1, 3), 1);
        T.due("enters no rut of depth 4 with axle 3", x.where(1, 60), 1);
        T.due("done", x.done(0), 4);
        T.due("never done", x.done(1), NONE);
        T.due("done cart", x.done(2), BAD);
        T.due("paid ahead", x.paid(0, 0), 0);
        T.due("paid", x.paid(0, 3), 3);
        T.due("paid", x.paid(0, 60), 7);
        T.due("paid", x.paid(1, 60), 5);
        T.due("paid 61", x.paid(0, 61), BAD);
        T.due("paid -1", x.paid(0, -1), BAD);
        T.due("paid cart", x.paid(2, 1), BAD);
        T.due("waited not ahead of its start", x.waited(0, 60), 0);
        T.due("waited", x.waited(1, 2), 2);
        T.due("waited", x.waited(1, 3), 2);
        T.due("waited", x.waited(1, 60), 59);
        T.due("waited 61", x.waited(1, 61), BAD);
        T.due("waited -1", x.waited(1, -1), BAD);
        T.due("waited cart", x.waited(-1, 1), BAD);
        T.due("a run changes nothing", x.cart(0, 4) + x.yard(2, 11), 1);
    }

    private static void runKinds() {
        WheelsWidths x = T.told("yards 6;hill 1 2;hill 2 0;toll 1 0 4;toll 2 0 5;cart sledge 0 9 0 0 2 2;cart smuggler 0 9 9 3 2 0;");
        T.due("sledge", x.where(0, 3), 0);
        T.due("sledge", x.where(0, 4), 1);
        T.due("sledge", x.where(0, 5), 1);
        T.due("sledge", x.done(0), 6);
        T.due("sledge pays", x.paid(0, 60), 9);
        T.due("sledge has not waited", x.waited(0, 60), 0);
        T.due("sledge deepens none", x.depth(2, 0, 60), 9);
        T.due("smuggler", x.done(1), 1);
        T.due("smuggler pays none", x.paid(1, 60), 0);
        x = T.told("cart double 0 9 30 0 6 0;rut 2 0 30;cart plain 1 9 8 0 6 0;rut 2 1 9;rut 3 0 31;");
        T.due("double", x.depth(1, 0, 1), 18);
        T.due("plain", x.depth(1, 1, 1), 9);
        T.due("just its axle", x.where(0, 2), 2);
        T.due("depth", x.depth(2, 0, 2), 48);
        T.due("above its axle", x.where(1, 60), 1);
        T.due("above its axle", x.where(0, 60), 2);
        // a sledge waits for a cart of its width, and a cart for a sledge of its own
        x = T.told("cart sledge 1 1 0 0 2 0;cart plain 1 1 30 1 5 20;cart plain 1 1 30 10 0 0;");
        T.due("sledge waits", x.where(0, 21), 0);
        T.due("sledge waited", x.waited(0, 21), 10);
        T.due("cart waits at a cart", x.where(2, 20), 2);
        x = T.told("cart sledge 1 1 0 1 5 20;cart plain 1 1 30 0 4 0;cart plain 0 1 30 0 4 0;");
        T.due("cart waits at a sledge", x.where(1, 21), 0);
        T.due("another width passes", x.done(2), 4);
    }

    private static void runFrostAndDepth() {
        WheelsWidths x = T.told("yards 4;rut 2 0 3;rut 4 2 1;frost 1;frost 2;frost 3;cart plain 0 5 4 0 3 1;rut 3 0 98;hill 3 0;");
        T.due("depth 0", x.depth(2, 0, 0), 3);
        T.due("depth 1", x.depth(2, 0, 1), 2);
        T.due("depth 2", x.depth(2, 0, 2), 1);
        T.due("gone in", x.depth(1, 0, 2), 4);
        T.due("gone in", x.depth(2, 0, 3), 5);
        T.due("no frost", x.depth(2, 0, 60), 5);
        T.due("not below 0", x.depth(4, 2, 60), 0);
        T.due("no rut", x.depth(3, 1, 1), NONE);
        T.due("depth 61", x.depth(3, 0, 61), BAD);
        T.due("depth -1", x.depth(3, 0, -1), BAD);
        T.due("depth bad ahead of none", x.depth(3, 1, 61), BAD);
        T.due("depth yard", x.depth(5, 0, 1), BAD);
        T.due("depth width", x.depth(3, 3, 1), BAD);
        x = T.told("cart double 0 9 30 0 2 0;cart sledge 1 9 30 0 2 0;rut 1 0 20;rut 2 0 30;");
        x.dig(1, 0, 30);
        T.due("30 and 18", x.depth(1, 0, 1), 48);
        x = T.told("cart double 0 9 30 0 2 0;cart double 0 9 30 3 0 0;frost 60;rut 5 1 99;");
        T.due("frost in the last hour", x.depth(5, 1, 59) - x.depth(5, 1, 60), 1);
        // axles end at 30, so that only a dig shows what 99 at most means
        T.due("99", x.dig(5, 1, 99), 99);
    }

    private static void runBogAndHill() {
        WheelsWidths x = T.told("bog 1;cart plain 0 1 30 0 4 0;cart plain 1 1 30 0 4 0;cart sledge 2 1 0 0 4 0;");
        T.due("into the bog", x.where(0, 1), 1);
        T.due("waits", x.where(1, 1), 0);
        // in hour 2 cart 0 leaves ahead of cart 1, and the sledge finds cart 1 there
        T.due("behind it", x.where(1, 2), 1);
        T.due("the sledge waits", x.where(2, 2), 0);
        T.due("the sledge comes", x.where(2, 4), 1);
        T.due("waited", x.waited(2, 60), 1);
        x = T.told("hill 1 1;cart plain 0 1 30 0 4 0;cart plain 1 1 30 0 4 0;");
        T.due("no rut", x.where(0, 60), 0);
        T.due("the hill's rut", x.done(1), 4);
        // at its goal, a bog, a cart is off the road at once
        x = T.told("bog 1;cart plain 0 1 30 0 1 0;cart plain 0 1 30 0 1 0;cart plain 2 1 30 2 1 0;");
        T.due("off the road", x.done(0) + x.done(1) + x.done(2), 3);
        // two that meet in one rut, or in bogs, stand in each other's way for ever
        x = T.told("cart plain 0 1 30 1 4 0;cart plain 1 1 30 2 0 0;");
        T.due("pass", x.done(0) * 10 + x.done(1), 32);
        x = T.told("cart plain 0 1 30 1 4 0;cart plain 0 1 30 2 0 0;");
        T.due("meet", x.done(0), NONE);
        x = T.told("bog 1;bog 2;cart plain 0 1 30 1 4 0;cart plain 1 1 30 2 0 0;");
        T.due("meet", x.done(0), NONE);
        T.due("meet", x.done(1), NONE);
    }

    private static void jamAndDeepest() {
        WheelsWidths x = T.told("yards 5;hill 0 2;cart plain 0 1 0 5 2 1;cart plain 1 1 0 3 1 0;rut 3 0 1;rut 2 1 1;rut 1 0 1;frost 3;");
        T.due("jam 1", x.jam(1), 2);
        T.due("jam 2", x.jam(2), 2);
        T.due("jam 3", x.jam(3), 3);
        T.due("jam 4", x.jam(4), 0);
        T.due("jam 0", x.jam(0), BAD);
        T.due("jam 61", x.jam(61), BAD);
        T.due("jam 60", x.jam(60), 0);
        T.due("deepest 0", x.deepest(0, 0), 1);
        T.due("deepest 0", x.deepest(0, 1), 3);
        x.dig(4, 2, 1);
        T.due("of several the least", x.deepest(2, 1), 3);
        T.due("what 2", x.deepest(0, 2), BAD);
        T.due("what -1", x.deepest(0, -1), BAD);
        T.due("hour -1", x.deepest(-1, 0), BAD);
        T.due("hour 61", x.deepest(61, 0), BAD);
        x.dig(4, 2, 0);
        x.dig(5, 2, 40);
        T.due("the deepest", x.deepest(60, 0), 39);
        T.due("the deepest", x.deepest(60, 1), 17);
        x = T.told("rut 0 0 7;");
        T.due("the first rut", x.deepest(0, 0) * 10 + x.deepest(0, 1), 70);
        x = T.told("yards 5;hill 0 2;");
        T.due("all of depth 0", x.deepest(60, 0), 0);
        T.due("the least of the ruts that there are", x.deepest(60, 1), 2);
    }

    private static void goOn() {
        WheelsWidths x = T.told("yards 6;frost 2;cart plain 0 3 9 0 2 0;cart double 1 2 9 1 6 1;cart plain 2 9 9 6 5 20;");
        T.due("go bad", x.go(-1), BAD);
        T.due("go bad", x.go(61), BAD);
        x.track(1, 1);
        T.due("go", x.go(2), 2);
        T.due("count", x.count(1), 2);
        T.due("kind", x.cart(0, 0), 1);
        T.due("yard", x.cart(0, 4), 2);
        T.due("goal", x.cart(0, 5), 6);
        T.due("start", x.cart(0, 6), 0);
        T.due("the other", x.cart(1, 1) + x.cart(1, 4) + x.cart(1, 6), 8);
        T.due("deep", x.yard(1, 10), 2);
        T.due("deep", x.yard(2, 11), 3);
        T.due("tracks stay", x.count(2), 1);
        T.due("frost stays", x.frost(2), 1);
        T.due("go(0) begins at once", x.go(0), 2);
        T.due("go to the end", x.go(60), 0);
        T.due("no carts", x.cart(0, 0), BAD);
        x = T.told("cart plain 0 3 9 1 0 0;");
        T.due("go into yard 0", x.go(1), 0);
        T.due("its rut", x.yard(0, 10), 3);
        x = T.told("cart plain 0 3 9 0 2 9;");
        T.due("go(0)", x.go(0), 1);
        T.due("start 0", x.cart(0, 6), 0);
    }

    private static void bestOrder() {
        // in one rut whose depth grows, the light carts must go ahead of the heavy one
        WheelsWidths x = T.told("yards 4;cart plain 0 5 30 0 3 0;cart plain 0 1 2 0 3 0;cart plain 0 1 0 0 3 0;");
        T.due("by numbers", x.done(1), NONE);
        T.due("sum", x.order(0), 12);
        T.due("order", x.order(10) * 100 + x.order(11) * 10 + x.order(12), 210);
        T.due("order(13)", x.order(13), BAD);
        T.due("order(9)", x.order(9), BAD);
        T.due("order(1)", x.order(1), BAD);
        T.due("order(-1)", x.order(-1), BAD);
        x.shoe(0, 1);
        T.due("changed", x.order(0), 10);
        T.due("of several the first", x.order(10) * 100 + x.order(11) * 10 + x.order(12), 21);
        x.dig(2, 1, 31);
        T.due("none", x.order(0), NONE);
        T.due("none", x.order(10), NONE);
        T.due("none, bad", x.order(13), BAD);
        x.fill(2);
        T.due("again", x.order(0), 10);
        // one order alone is possible, the last one
        x = T.told("cart plain 0 1 4 0 2 0;cart plain 0 1 3 0 2 0;cart plain 0 1 2 0 2 0;cart plain 0 1 1 0 2 0;"
            + "cart plain 0 1 0 0 2 0;");
        T.due("the last order", x.order(0), 20);
        for (int i = 0; i < 5; i++) T.due("the last order " + i, x.order(10 + i), 4 - i);
        // a sledge that is done in the last hour
        x = T.told("yards 20;cart sledge 0 1 0 0 20 20;");
        T.due("hour 60", x.done(0), 60);
        T.due("hour 60", x.order(0), 60);
        T.due("hour 60", x.mend(0), 0);
        x = T.told("yards 20;cart sledge 0 1 0 0 20 20;cart sledge 0 1 0 0 20 20;");
        T.due("hour 62", x.order(0), NONE);
        // frost opens the way in hour 50, when nothing has gone for long
        x = T.told("rut 1 0 5;frost 50;cart plain 0 1 4 0 2 0;");
        T.due("frost", x.order(0), 52);
        T.due("frost", x.mend(0), 0);
        x = new WheelsWidths();
        T.due("no carts", x.order(0), STATE);
        T.due("no carts", x.order(10), BAD);
        T.due("no carts", x.order(3), BAD);
    }

    /** Orders and mending are told anew behind each change. */
    private static void planning() {
        WheelsWidths x = T.told("rut 1 0 5;cart plain 0 1 4 0 2 0;cart smuggler 0 1 30 0 2 0;");
        T.due("at first", plans(x), -4 * 10000 + 101);
        x.keep(0);
        x.dig(1, 0, 4);
        T.due("dig", plans(x), 5 * 10000);
        x.back(0);
        T.due("back", plans(x), -4 * 10000 + 101);
        x.fill(1);
        T.due("fill", plans(x), 5 * 10000);
        x.back(0);
        plans(x);
        x.shoe(0, 1);
        T.due("shoe", plans(x), 4 * 10000);
        x.back(0);
        plans(x);
        x.freeze(1, true);
        x.freeze(2, true);
        T.due("freeze", plans(x), 6 * 10000);
        x.freeze(2, false);
        T.due("thaw", plans(x), -4 * 10000 + 101);
        x.back(0);
        x.dig(1, 0, 3);
        plans(x);
        x.load(0, 9);
        T.due("load", x.order(0), 5);
        x.load(1, 9);
        T.due("load", x.order(0), 5);
        x.shoe(1, 2);
        x.go(1);
        T.due("go", plans(x), 2 * 10000);
        Check.put(x, "cart plain 0 1 4 0 8 0;");
        x.text();
        T.due("text", plans(x), 8 * 10000);
        x = T.told("rut 1 0 3;cart plain 0 1 4 0 2 0;cart plain 0 1 4 0 2 0;");
        T.due("light", x.order(0) * 10 + x.order(10), 50);
        x.load(0, 2);
        T.due("heavy", x.order(0) * 10 + x.order(10), 51);
    }

    private static int plans(WheelsWidths x) {
        int order = x.order(0);
        return order * 10000 + 100 * x.mend(0) + (x.mend(0) > 0 ? x.mend(1) : 0);
    }

    private static void mending() {
        WheelsWidths x = T.told("yards 6;rut 2 0 5;rut 4 1 5;cart plain 0 1 4 0 3 0;cart plain 1 1 4 3 6 0;");
        T.due("two", x.mend(0), 2);
        T.due("two", x.mend(1), 2);
        T.due("two", x.mend(2), 4);
        x.dig(4, 1, 4);
        T.due("one", x.mend(0), 1);
        T.due("one", x.mend(1), 2);
        T.due("one", x.mend(2), NONE);
        x.dig(2, 0, 4);
        T.due("zero", x.mend(0), 0);
        T.due("zero", x.mend(1), NONE);
        T.due("zero", x.mend(2), NONE);
        x.dig(1, 0, 9);
        x.dig(2, 0, 9);
        x.dig(3, 0, 9);
        T.due("three", x.mend(0), NONE);
        T.due("three", x.mend(1), NONE);
        T.due("three", x.mend(2), NONE);
        T.due("bad", x.mend(3), BAD);
        T.due("bad", x.mend(-1), BAD);
        T.due("mending changes nothing", x.yard(1, 10), 9);
        x = T.told("rut 0 1 9;rut 10 0 9;cart plain 1 1 8 4 0 0;cart plain 0 1 8 4 10 0;cart plain 0 1 8 1 2 0;");
        T.due("the first and the last yard", x.mend(0) * 1000 + x.mend(1) * 100 + x.mend(2), 2010);
        x.dig(0, 1, 0);
        T.due("the last yard", x.mend(0) * 1000 + x.mend(1), 1010);
        x.dig(0, 1, 9);
        x.dig(10, 0, 0);
        T.due("the first yard", x.mend(0) * 1000 + x.mend(1), 1000);
        T.due("no carts", new WheelsWidths().mend(0), 0);
        T.due("no carts", new WheelsWidths().mend(1), NONE);
        // the cart that is first makes the ruts deeper for the one behind it
        x = T.told("rut 1 0 3;rut 2 0 3;cart plain 0 1 3 0 1 0;cart plain 0 1 3 3 2 0;cart plain 0 1 3 0 1 0;");
        T.due("one of two", x.mend(0) * 10 + x.mend(1), 11);
    }

    private static void wayPlain() {
        WheelsWidths x = T.told("yards 6;smith 1 3;smith 3 1;toll 2 0 9;toll 2 1 1;toll 4 0 2;hill 5 1;cart plain 0 1 9 0 6 0;");
        // by tolls: change at 1 (3), 1 for yard 2, then free: 4; against 9 at yard 2, 1 at the smith of 3
        T.due("cost", x.way(0, 0, 0), 4);
        T.due("hours", x.way(0, 0, 1), 7);
        T.due("acts", x.way(0, 0, 2), 7);
        int[] acts = {0, 3, 0, 0, 0, 0, 0};
        for (int k = 0; k < 7; k++) T.due("act " + k, x.way(0, 0, 10 + k), acts[k]);
        T.due("act 7", x.way(0, 0, 17), NONE);
        T.due("act far", x.way(0, 0, Integer.MAX_VALUE), NONE);
        T.due("by hours", x.way(0, 1, 1), 7);
        T.due("by hours", x.way(0, 1, 0), 4);
        x.dig(2, 1, 10);
        // by tolls: to width 2 at yard 1, to width 1 at yard 3; by hours: one change alone, at yard 3
        T.due("closed", x.way(0, 0, 0), 4);
        T.due("closed", x.way(0, 0, 1), 8);
        T.due("closed", x.way(0, 0, 11), 4);
        T.due("closed", x.way(0, 0, 14), 3);
        T.due("closed, by hours", x.way(0, 1, 0), 10);
        T.due("closed, by hours", x.way(0, 1, 1), 7);
        T.due("closed, by hours", x.way(0, 1, 13), 3);
        x.dig(5, 1, 10);
        T.due("none", x.way(0, 0, 0), NONE);
        T.due("none", x.way(0, 1, 10), NONE);
        T.due("none, but bad", x.way(0, 1, 9), BAD);
        T.due("bad by", x.way(0, 2, 0), BAD);
        T.due("bad by", x.way(0, -1, 0), BAD);
        T.due("bad what", x.way(0, 0, 3), BAD);
        T.due("bad what", x.way(0, 0, -1), BAD);
        T.due("bad cart", x.way(1, 0, 0), BAD);
        // back to a smith ahead of where it begins: act 1 goes down, act 2 to width 0
        x = T.told("yards 4;smith 1 2;hill 4 0;cart plain 2 1 9 2 4 0;");
        int[] back = {1, 2, 0, 0, 0};
        for (int k = 0; k < 5; k++) T.due("back " + k, x.way(0, 0, 10 + k), back[k]);
        // a goal with a lower number is reached by acts 1
        x = T.told("cart plain 2 1 9 2 0 0;toll 1 2 3;");
        T.due("down", x.way(0, 0, 10) * 10 + x.way(0, 0, 11), 11);
        T.due("down", x.way(0, 0, 0), 3);
        // of equal ways the first by acts: to change at 0 or later, to width 0 or 1
        x = T.told("smith 0 1;smith 1 1;hill 3 1;cart plain 0 1 9 0 3 0;");
        T.due("late", x.way(0, 0, 10) * 10 + x.way(0, 0, 11), 3);
    }

    private static void wayKinds() {
        WheelsWidths x = T.told("yards 4;smith 0 2;hill 2 1;toll 1 0 4;toll 2 0 4;cart sledge 0 1 0 0 2 0;");
        T.due("sledge", x.way(0, 0, 0), 2);
        T.due("sledge hours", x.way(0, 0, 1), 5);
        T.due("sledge by hours", x.way(0, 1, 1), 4);
        T.due("sledge by hours", x.way(0, 1, 0), 8);
        T.due("sledge acts", x.way(0, 1, 2), 2);
        x = T.told("yards 4;smith 0 2;hill 2 1;toll 1 1 4;cart hired 0 1 0 0 2 0;cart smuggler 0 1 0 0 2 0;cart double 0 1 0 0 2 0;");
        T.due("hired", x.way(0, 0, 0), NONE);
        T.due("smuggler pays the smith", x.way(1, 0, 0), 2);
        T.due("smuggler", x.way(1, 0, 1), 3);
        T.due("double", x.way(2, 0, 0), 6);
        // a smuggler by money has no reason to change, and others are out of sight
        x = T.told("bog 1;cart smuggler 0 1 0 0 2 20;cart plain 0 1 0 1 2 20;toll 1 0 9;");
        T.due("out of sight", x.way(0, 0, 0), 0);
        T.due("out of sight", x.way(0, 0, 1), 2);
    }

    private static void canCome() {
        WheelsWidths x = T.told("yards 6;hill 1 1;hill 5 0;smith 4 0;rut 6 0 9;cart plain 2 1 8 3 2 0;cart sledge 2 1 0 6 2 0;cart hired 2 1 30 3 4 0;");
        T.due("changes at 4", x.can(0), 63);
        T.due("a sledge", x.can(1), 127);
        T.due("hired", x.can(2), 28);
        x.shoe(0, 0);
        T.due("a change at 4 to go back", x.can(0), 63);
        x.dig(2, 0, 9);
        x.dig(2, 1, 9);
        T.due("stopped", x.can(0), 60);
        x.dig(4, 0, 9);
        T.due("only its own", x.can(0), 8);
        T.due("can bad", x.can(3), BAD);
        T.due("can bad", x.can(-1), BAD);
        T.due("yard 20", T.told("yards 20;cart plain 0 1 0 20 19 0;").can(0), (1 << 21) - 1);
    }

    private static void treaties() {
        WheelsWidths x = T.told("cost 1 9;cost 2 8;cost 4 7;cost 3 14;cost 5 13;cost 6 12;cost 7 18;");
        T.due("firm", x.firm(6, 6, 6), 1);
        T.due("not together", x.firm(6, 6, 5), 0);
        T.due("a pays more", x.firm(10, 5, 3), 0);
        T.due("b pays more", x.firm(5, 9, 4), 0);
        T.due("c pays more", x.firm(5, 5, 8), 0);
        T.due("a and b", x.firm(9, 6, 3), 0);
        T.due("a and c", x.firm(9, 4, 5), 0);
        T.due("b and c", x.firm(5, 7, 6), 0);
        T.due("bad", x.firm(-1, 10, 9), BAD);
        T.due("bad", x.firm(0, 61, 0), BAD);
        T.due("bad", x.firm(0, 0, -1), BAD);
        T.due("shares", x.shares(0), 10);
        T.due("first", x.shares(1), 60507);
        T.due("bad", x.shares(2), BAD);
        T.due("bad", x.shares(-1), BAD);
        T.due("price", x.price(7, 60), 18);
        T.due("none", x.shares(0), 0);
        T.due("none", x.shares(1), NONE);
        for (int some = 1; some <= 7; some++) x.price(some, 60);
        T.due("all of 60", x.shares(0), 61 * 62 / 2);
        T.due("all of 60", x.shares(1), 60);
        T.due("cost", x.cost(3), 60);
        T.due("cost 0", x.cost(0), BAD);
        T.due("cost 8", x.cost(8), BAD);
        T.due("price 0", x.price(0, 1), BAD);
        T.due("price 8", x.price(8, 1), BAD);
        T.due("price 61", x.price(1, 61), BAD);
        T.due("price -1", x.price(1, -1), BAD);
        x = new WheelsWidths();
        T.due("nothing is shared", x.firm(0, 0, 0), 1);
        T.due("nothing is shared", x.shares(0), 1);
        T.due("nothing is shared", x.shares(1), 0);
    }

    private static void trackRows() {
        WheelsWidths x = T.told("yards 3;hill 1 1;");
        T.due("bad", x.track(4, 0), BAD);
        T.due("bad", x.track(-1, 0), BAD);
        T.due("bad", x.track(3, 3), BAD);
        T.due("bad", x.track(3, -1), BAD);
        for (int n = 1; n <= 8; n++) T.due("track", x.track(1, 0), n);
        T.due("full", x.track(1, 1), FULL);
        T.due("bad ahead of full", x.track(4, 1), BAD);
        T.due("forget", x.forget(9), BAD);
        T.due("forget", x.forget(-1), BAD);
        T.due("forget", x.forget(7), 8);
        T.due("count", x.count(2), 7);
        T.due("track", x.track(3, 2), 8);
        T.due("forget", x.forget(0), 8);
        T.due("forget", x.forget(0), 0);
    }

    private static void fittingOrders() {
        WheelsWidths x = T.told("cart plain 0 1 0 0 4 0;cart plain 1 1 0 5 3 0;cart sledge 2 1 0 0 9 0;cart plain 1 1 0 2 6 0;");
        T.due("all", x.orders(0), 24);
        T.due("first", x.orders(10) + x.orders(11) * 10 + x.orders(12) * 100 + x.orders(13) * 1000, 3210);
        T.due("bad", x.orders(14), BAD);
        T.due("bad", x.orders(9), BAD);
        T.due("bad", x.orders(1), BAD);
        T.due("bad", x.orders(-1), BAD);
        T.due("last in 4", x.whose(4), 11);
        T.due("last in 5", x.whose(5), 8);
        T.due("last in 9", x.whose(9), 0);
        T.due("last in 0", x.whose(0), 0);
        T.due("last in 1", x.whose(1), 1);
        T.due("last in 2, where one begins", x.whose(2), 1);
        T.due("whose", x.whose(11), BAD);
        T.due("whose", x.whose(-1), BAD);
        // the last in 3 has width 0: cart 0 behind 1 and 3
        x.track(3, 0);
        T.due("fit", x.orders(0), 8);
        T.due("first", x.orders(10) * 1000 + x.orders(11) * 100 + x.orders(12) * 10 + x.orders(13), 1230);
        T.due("last in 4", x.whose(4), 1);
        T.due("last in 6", x.whose(6), 8);
        x.track(4, 1);
        T.due("not both", x.orders(0), 0);
        T.due("none", x.orders(10), NONE);
        T.due("nobody", x.whose(4), 0);
        x.forget(0);
        x.track(9, 2);
        T.due("a sledge makes none", x.orders(0), 0);
        x = new WheelsWidths();
        T.due("one order of none", x.orders(0), 1);
        T.due("of none", x.orders(10), BAD);
        T.due("of none", x.whose(10), 0);
        x.track(0, 0);
        T.due("does not fit", x.orders(0), 0);
    }

    private static void images() {
        WheelsWidths x = T.told("yards 5;bog 1;rut 1 0 4;frost 3;cost 1 5;cart plain 0 2 9 0 3 0;cart plain 1 2 9 0 3 0;");
        x.track(1, 0);
        T.due("keep", x.keep(1), 0);
        T.due("count", x.count(3), 1);
        x.dig(1, 0, 9);
        x.shoe(0, 2);
        x.load(0, 3);
        x.freeze(3, false);
        x.freeze(4, true);
        x.price(1, 6);
        x.track(2, 0);
        T.due("keep", x.keep(0), 0);
        T.due("keep again", x.keep(0), 1);
        T.due("count", x.count(3), 2);
        x.go(60);
        x.forget(0);
        T.due("back", x.back(1), 2);
        T.due("rut", x.yard(1, 10), 4);
        T.due("width", x.cart(0, 1), 0);
        T.due("load", x.cart(0, 2), 2);
        T.due("frost", x.frost(3) * 10 + x.frost(4), 10);
        T.due("cost", x.cost(1), 5);
        T.due("tracks", x.count(2), 1);
        T.due("back", x.back(0), 2);
        T.due("rut", x.yard(1, 10), 9);
        T.due("tracks", x.count(2), 2);
        T.due("bog", x.yard(1, 1), 1);
        // tracks come back as they were, not only their number
        x.forget(0);
        x.track(3, 0);
        x.keep(1);
        T.due("fits none", x.orders(0), 0);
        x.back(0);
        x.forget(0);
        x.track(3, 2);
        x.keep(0);
        T.due("fits", x.orders(0), 1);
        x.back(1);
        T.due("other carts, other tracks", x.orders(0), 0);
        x.shoe(1, 0);
        T.due("fits", x.orders(0), 1);
        x.back(0);
        T.due("fits", x.orders(0), 1);
        T.due("keep bad", x.keep(2), BAD);
        T.due("keep bad", x.keep(-1), BAD);
        T.due("back bad", x.back(2), BAD);
        T.due("back bad", x.back(-1), BAD);
        T.due("images stay", x.count(3), 2);
    }

    private static void sheets() {
        WheelsWidths x = new WheelsWidths();
        T.due("sheet", x.sheet(0, 0, 40), 1);
        T.due("cells", x.count(5), 40);
        T.due("sheet k", x.sheet(4, 0, 1), BAD);
        T.due("sheet k", x.sheet(-1, 0, -1), BAD);
        T.due("sheet lane", x.sheet(0, 3, -1), BAD);
        T.due("sheet lane", x.sheet(0, -1, 1), BAD);
        T.due("sheet 41", x.sheet(0, 0, 41), BAD);
        T.due("size", x.sheet(0, 0, -1), -14);
        T.due("cells stay", x.count(5), 40);
        T.due("lay", x.lay(0, 39, 1), 1);
        T.due("lay 40", x.lay(0, 40, 1), -12);
        T.due("lay -1", x.lay(0, -1, 1), -12);
        T.due("lay k", x.lay(4, 0, 1), BAD);
        T.due("lay nothing", x.lay(1, 0, 1), -11);
        T.due("empty", x.sheet(3, 2, 0), 1);
        T.due("lay empty", x.lay(3, 0, 0), -12);
        T.due("sheet", x.sheet(0, 0, 0), 1);
        T.due("cells", x.count(5), 0);
        // the lowest bits, with a sign, and a new row of zeros
        x.sheet(1, 0, 2);
        x.lay(1, 0, 256 + 5);
        x.lay(1, 1, 0x12345602);
        T.due("bytes", x.read(1, 0, 0, 1), 1);
        x.lay(1, 0, 99);
        x.sheet(1, 0, 2);
        T.due("a new row", x.read(1, 0, 0, 1), 1);
        x.lay(1, 1, 255);
        T.due("a sign", x.read(1, 0, 0, 1), -20);
        x.sheet(1, 1, 2);
        T.due("a new row", x.read(1, 1, 0, 1), 1);
        x.lay(1, 0, 65536 + 7);
        T.due("shorts", x.read(1, 1, 0, 1), 1);
        x.lay(1, 0, 256);
        T.due("a short", x.read(1, 1, 0, 1), -20);
        x.sheet(1, 2, 2);
        x.lay(1, 0, 65536 + 7);
        T.due("ints", x.read(1, 2, 0, 1), -20);
        x.lay(1, 0, 7);
        T.due("ints", x.read(1, 2, 0, 1), 1);
        T.due("tracks", x.count(2), 5);
    }

    private static void readTracks() {
        WheelsWidths x = T.told("yards 3;cart plain 1 1 0 0 3 0;");
        T.due("n 0", x.read(0, 0, -5, 0), 0);
        T.due("torn", x.torn(), 0);
        T.due("nothing", x.read(0, 0, 0, 1), 0);
        T.due("torn", x.torn(), 1);
        x.sheet(0, 0, 5);
        T.due("cast", x.read(0, 2, 0, 1), 0);
        T.due("torn", x.torn(), 3);
        T.due("cast, n 0", x.read(0, 2, 0, 0), 0);
        T.due("torn", x.torn(), 0);
        T.due("bad k", x.read(4, 0, 0, 0), BAD);
        T.due("bad lane", x.read(0, 3, 0, 0), BAD);
        T.due("bad n", x.read(0, 0, 0, 9), BAD);
        T.due("bad n", x.read(0, 0, 0, -1), BAD);
        int[] cells = {1, 2, 3, 0, 4};
        for (int i = 0; i < 5; i++) x.lay(0, i, cells[i]);
        T.due("index", x.read(0, 0, -1, 1), 0);
        T.due("torn", x.torn(), 2);
        T.due("refused", x.read(0, 0, 1, 2), -20);
        x.lay(0, 3, 5);
        T.due("refused", x.read(0, 0, 0, 3), -21);
        x.lay(0, 3, 0);
        x.lay(0, 4, 1);
        T.due("torn stays", x.torn(), 2);
        T.due("none came", x.count(2), 0);
        T.due("one came", x.read(0, 0, 3, 8), 1);
        T.due("torn", x.torn(), 2);
        T.due("whole", x.read(0, 0, 0, 2), 2);
        T.due("torn", x.torn(), 0);
        T.due("half a track", x.read(0, 0, 0, 3), 2);
        T.due("torn", x.torn(), 2);
        T.due("at the last cell", x.read(0, 0, 4, 1), 0);
        T.due("far", x.read(0, 0, Integer.MAX_VALUE, 8), 0);
        T.due("far", x.read(0, 0, Integer.MIN_VALUE, 8), 0);
        T.due("tracks", x.count(2), 5);
        x.read(0, 0, 0, 2);
        T.due("full", x.read(0, 0, 0, 2), -21);
        T.due("none came", x.count(2), 7);
        T.due("one more", x.read(0, 0, 0, 1), 1);
        T.due("full", x.read(0, 0, 0, 1), -20);
        T.due("full, but torn first", x.read(0, 0, 4, 1), 0);
        // what came is what was there: yard 1 of width 2 can not have been
        x.forget(0);
        x.lay(0, 1, 1);
        x.lay(0, 3, 1);
        x.read(0, 0, 0, 2);
        T.due("fits", x.orders(0), 1);
        x.forget(0);
        x.lay(0, 3, 0);
        x.read(0, 0, 0, 2);
        T.due("fits not", x.orders(0), 0);
    }

    private static void counts() {
        WheelsWidths x = T.told("yards 7;cart plain 1 1 0 0 3 0;");
        T.due("count", x.count(0), 7);
        T.due("count", x.count(1), 1);
        T.due("count", x.count(6), BAD);
        T.due("count", x.count(-1), BAD);
        x.sheet(0, 2, 3);
        T.due("count", x.count(5), 3);
        x.feed(0);
        T.due("count", x.count(4), 8);
        T.due("constants", WheelsWidths.BAD * 1000 + WheelsWidths.STATE * 100 + WheelsWidths.FULL * 10 + WheelsWidths.NONE, -1234);
    }
}
