/** The edges of what carts do: in runs, ways, orders, and in what tracks tell. */
public final class RunBoundsTest {
    private static final int BAD = -1, STATE = -2, NONE = -4;
    private static final Check T = new Check();

    public static void main(String[] args) {
        starts();
        sledgeHours();
        axles();
        loads();
        tolls();
        inTheWay();
        offTheRoad();
        frost();
        lastHour();
        hourNone();
        goEdges();
        noCarts();
        orderEdges();
        mendEdges();
        wayEnds();
        wayRuts();
        wayKinds();
        changesOfWidth();
        wayTies();
        canEdges();
        shareEdges();
        trackEdges();
        trackFit();
        tracksRead();
        imageEdges();
        T.finish("RunBoundsTest");
    }

    private static void due(String what, long got, long want) {
        T.due(what, got, want);
    }

    /** An hour behind its START is the first in which a cart goes, or waits. */
    private static void starts() {
        for (int start = 0; start <= 20; start++) {
            WheelsWidths x = Scene.told("cart plain 0 1 0 0 2 " + start + ";cart plain 1 1 0 0 2 " + start + ";rut 1 1 1;");
            due("start " + start, x.where(0, start), 0);
            due("start " + start, x.where(0, start + 1), 1);
            due("start " + start, x.done(0), start + 2);
            due("start " + start, x.waited(1, start), 0);
            due("start " + start, x.waited(1, start + 1), 1);
            due("start " + start, x.waited(1, 60), 60 - start);
            if (start > 0) due("start " + start, x.jam(start), 0);
            due("start " + start, x.jam(start + 1), 2);
        }
    }

    /** A sledge goes, and waits, in hours that 2 divides alone. */
    private static void sledgeHours() {
        for (int start = 0; start <= 20; start++) {
            int first = start / 2 * 2 + 2;
            WheelsWidths x = Scene.told("cart sledge 0 1 0 0 2 " + start + ";cart sledge 1 1 0 0 2 " + start + ";cart plain 1 1 0 1 10 20;rut 2 1 1;");
            due("sledge from " + start, x.where(0, first - 1), 0);
            due("sledge from " + start, x.where(0, first), 1);
            due("sledge from " + start, x.where(0, first + 1), 1);
            due("sledge from " + start, x.done(0), first + 2);
            due("sledge waits from " + start, x.waited(1, first - 1), 0);
            due("sledge waits from " + start, x.waited(1, first), 1);
            due("sledge waits from " + start, x.waited(1, first + 1), 1);
            due("sledge waits from " + start, x.waited(1, 60), (60 - first) / 2 + 1);
            due("sledge jams from " + start, x.jam(first) & 2, 2);
            due("sledge jams from " + start, x.jam(first + 1) & 2, 0);
        }
    }

    /** A RUT as deep as the AXLE is gone in, a deeper one is not. */
    private static void axles() {
        for (int axle = 0; axle <= 30; axle++) {
            WheelsWidths x = Scene.told("cart plain 2 1 " + axle + " 3 5 0;cart hired 1 1 " + axle + " 9 7 0;");
            x.dig(4, 2, axle);
            x.dig(8, 1, axle);
            due("axle " + axle, x.done(0) * 10 + x.done(1), 22);
            due("way of axle " + axle, x.way(0, 0, 1) * 10 + x.way(1, 1, 1), 22);
            x.dig(4, 2, axle + 1);
            x.dig(8, 1, axle + 1);
            due("axle " + axle, x.done(0) * 10 + x.done(1), 11 * NONE);
            due("axle " + axle, x.where(0, 60) * 10 + x.where(1, 60), 39);
            due("way of axle " + axle, x.way(0, 0, 1) * 10 + x.way(1, 1, 1), 11 * NONE);
        }
        // a sledge needs no rut and deepens none
        for (int kind = 0; kind < 2; kind++) {
            WheelsWidths x = Scene.told((kind == 0 ? "rut 1 0 99;" : "hill 1 2;rut 1 2 99;") + "cart sledge 0 9 0 0 1 0;");
            due("sledge", x.done(0), 2);
            due("sledge", x.depth(1, kind == 0 ? 0 : 2, 60), 99);
            due("sledge", x.go(60), 0);
            due("sledge", x.yard(1, kind == 0 ? 10 : 12), 99);
        }
    }

    private static void loads() {
        for (int load = 1; load <= 9; load++) {
            WheelsWidths x = Scene.told("cart plain 0 " + load + " 30 0 1 0;cart double 1 " + load + " 30 0 1 0;cart sledge 2 " + load
                + " 30 0 1 0;cart hired 0 " + load + " 30 5 4 0;cart smuggler 1 " + load + " 30 5 4 0;rut 1 0 30;rut 4 1 30;");
            due("plain", x.depth(1, 0, 1), 30 + load);
            due("double", x.depth(1, 1, 1), 2 * load);
            due("sledge", x.depth(1, 2, 60), 0);
            due("hired", x.depth(4, 0, 1), load);
            due("smuggler", x.depth(4, 1, 1), 30 + load);
            due("another width", x.depth(4, 2, 60), 0);
            due("where it began", x.depth(0, 0, 60) + x.depth(5, 0, 60), 0);
        }
        // 48 is the deepest that carts can make a rut; a cart that waits deepens none
        WheelsWidths x = Scene.told("cart double 0 9 30 0 5 0;rut 1 0 30;rut 2 0 31;");
        due("deepest of all", x.deepest(60, 0), 48);
        due("it waits", x.depth(2, 0, 60), 31);
    }

    /** The TOLL of its WIDTH where it goes, its goal too, where it begins not. */
    private static void tolls() {
        String[] kinds = {"plain", "double", "sledge", "hired", "smuggler"};
        for (String kind : kinds) {
            int least = kind.equals("smuggler") ? 0 : 1;
            int hours = kind.equals("sledge") ? 2 : 1;
            WheelsWidths x = Scene.told("toll 0 1 9;toll 1 1 2;toll 1 0 9;toll 2 1 5;toll 3 1 9;toll 4 1 9;cart " + kind + " 1 1 30 0 2 0;cart "
                + kind + " 1 1 30 5 3 0;");
            due(kind + " begins", x.paid(0, 0), 0);
            due(kind + " goes", x.paid(0, hours), 2 * least);
            due(kind + " comes", x.paid(0, 2 * hours), 7 * least);
            due(kind + " is off", x.paid(0, 60), 7 * least);
            due(kind + " down", x.paid(1, 60), 18 * least);
            due(kind + " way", x.way(0, 0, 0), 7 * least);
            due(kind + " way down", x.way(1, 1, 0), 18 * least);
        }
        // each of five pays for itself
        WheelsWidths x = Scene.told("toll 1 0 1;toll 2 1 2;toll 3 2 3;toll 4 0 4;toll 5 0 5;cart plain 0 1 30 0 1 0;cart plain 1 1 30 3 2 0;"
            + "cart plain 2 1 30 2 3 0;cart plain 0 1 30 5 4 0;cart plain 0 1 30 6 5 0;");
        for (int c = 0; c < 5; c++) due("cart " + c + " pays", x.paid(c, 60), c + 1);
        due("no toll", Scene.told("toll 1 0 0;cart plain 0 1 0 0 1 0;").paid(0, 60), 0);
        due("what is waited for is not paid", Scene.told("toll 1 0 9;rut 1 0 1;cart plain 0 1 0 0 1 0;").paid(0, 60), 0);
    }

    /** Another cart of the same width is in the way, a sledge too; in a bog each other one. */
    private static void inTheWay() {
        String[] kinds = {"plain", "double", "sledge", "hired", "smuggler"};
        for (String kind : kinds) {
            for (String other : kinds) {
                for (int w = 0; w < 3; w++) {
                    String carts = "cart " + kind + " 1 1 30 0 2 0;cart " + other + " " + w + " 1 30 1 3 20;";
                    int first = kind.equals("sledge") ? 2 : 1;
                    due(kind + " and " + other, Scene.told(carts).where(0, first), w == 1 ? 0 : 1);
                    due(kind + " and " + other + " in a bog", Scene.told(carts + "bog 1;").where(0, first), 0);
                    due(kind + " and " + other + " waits", Scene.told(carts + "bog 1;").waited(0, first), 1);
                    due(kind + " behind a bog", Scene.told(carts + "bog 0;bog 2;").where(0, first), w == 1 ? 0 : 1);
                }
            }
        }
        // carts may begin in one rut, and the one that goes first is out of the other's way
        WheelsWidths x = Scene.told("bog 0;cart plain 0 1 30 0 3 0;cart plain 0 1 30 0 3 0;");
        due("both begin there", x.where(0, 1) * 10 + x.where(1, 1), 10);
        due("one behind the other", x.done(0) * 10 + x.done(1), 34);
    }

    /** At its goal a cart is off the road in that very hour. */
    private static void offTheRoad() {
        WheelsWidths x = Scene.told("bog 1;cart plain 0 1 30 0 1 0;cart plain 0 1 30 0 1 0;cart plain 1 1 30 2 0 0;cart sledge 2 1 30 2 1 0;");
        due("at once", x.done(0) * 10 + x.done(1), 11);
        due("at once", x.where(2, 1), 1);
        due("goes through", x.done(2), 2);
        due("then the sledge", x.done(3), 2);
        due("none waits", x.jam(1) + x.jam(2), 0);
    }

    /** Behind all carts of an hour; a rut of 0 stays. */
    private static void frost() {
        WheelsWidths x = Scene.told("rut 1 0 1;rut 2 0 99;rut 3 2 2;frost 1;frost 2;frost 60;cart plain 0 1 0 0 1 0;");
        int[] hours = {0, 1, 2, 3, 59, 60};
        int[] first = {1, 0, 0, 0, 0, 0};
        int[] second = {99, 98, 97, 97, 97, 96};
        int[] third = {2, 1, 0, 0, 0, 0};
        for (int i = 0; i < hours.length; i++) {
            // the cart finds the rut too deep in hour 1, goes in in hour 2, and the frost of that hour comes behind it
            due("frost, first " + hours[i], x.depth(1, 0, hours[i]), first[i]);
            due("frost, second " + hours[i], x.depth(2, 0, hours[i]), second[i]);
            due("frost, third " + hours[i], x.depth(3, 2, hours[i]), third[i]);
            due("frost, none " + hours[i], x.depth(4, 1, hours[i]), 0);
        }
        due("it waits in hour 1", x.waited(0, 60), 1);
        due("done", x.done(0), 2);
        // a rut that frost has filled long since is deepened from 0 on
        x = Scene.told("frost 1;frost 2;frost 3;frost 9;rut 1 0 1;cart plain 0 5 0 0 1 5;");
        due("filled", x.depth(1, 0, 5), 0);
        due("deepened", x.depth(1, 0, 6), 5);
        due("frost again", x.depth(1, 0, 9), 4);
        for (int h = 1; h <= 60; h++) {
            x = Scene.told("frost " + h + ";rut 2 1 9;");
            due("ahead of hour " + h, x.depth(2, 1, h - 1), 9);
            due("behind hour " + h, x.depth(2, 1, h), 8);
        }
    }

    /** A rut of so many that frost of each hour opens it in hour 60, or too late by one. */
    private static void lastHour() {
        WheelsWidths x = Scene.told("rut 1 0 59;cart plain 0 1 0 0 1 0;");
        for (int h = 1; h <= 60; h++) x.freeze(h, true);
        due("done in hour 60", x.done(0), 60);
        due("where in hour 59", x.where(0, 59), 0);
        due("where in hour 60", x.where(0, 60), 1);
        due("waited", x.waited(0, 60), 59);
        due("jam in hour 59", x.jam(59), 1);
        due("jam in hour 60", x.jam(60), 0);
        due("order", x.order(0), 60);
        due("mend", x.mend(0), 0);
        x.dig(1, 0, 60);
        due("too late", x.done(0), NONE);
        due("too late", x.where(0, 60), 0);
        due("too late", x.waited(0, 60), 60);
        due("too late", x.jam(60), 1);
        due("too late", x.order(0), NONE);
        due("too late", x.order(10), NONE);
        due("too late", x.mend(0) * 10 + x.mend(1), 11);
        due("too late", x.go(60), 1);
        due("deep", x.yard(1, 10), 0);
        due("now", x.done(0), 1);
    }

    /** Behind hour 0 all is as it stands now. */
    private static void hourNone() {
        WheelsWidths x = Scene.full();
        for (int c = 0; c < 5; c++) {
            due("where", x.where(c, 0), x.cart(c, 4));
            due("paid", x.paid(c, 0), 0);
            due("waited", x.waited(c, 0), 0);
        }
        for (int y = 0; y <= 6; y++) {
            for (int w = 0; w < 3; w++) due("depth", x.depth(y, w, 0), x.yard(y, 10 + w));
        }
        due("deepest", x.deepest(0, 0) * 100 + x.deepest(0, 1), 806);
        due("go", x.go(0), 5);
        int[] yards = {0, 1, 0, 6, 6};
        for (int c = 0; c < 5; c++) due("yard and start", x.cart(c, 4) * 10 + x.cart(c, 6), yards[c] * 10);
    }

    private static void goEdges() {
        String text = "frost 2;cart plain 0 2 30 0 2 0;cart plain 1 2 30 0 5 9;toll 1 0 3;cost 1 4;bog 3;smith 3 3;";
        WheelsWidths x = Scene.told(text);
        x.track(1, 0);
        x.keep(1);
        due("not done yet", x.go(1), 2);
        due("goes on", x.done(0), 1);
        x.back(1);
        due("done in that hour", x.go(2), 1);
        due("the other one", x.cart(0, 1), 1);
        due("start", x.cart(0, 6), 0);
        due("no cart 1", x.cart(1, 0), BAD);
        due("frost of that hour", x.yard(1, 10) * 10 + x.yard(2, 10), 11);
        due("frost stays", x.frost(2), 1);
        due("toll, cost, bog, smith, tracks stay", x.yard(1, 20) + x.cost(1) + x.yard(3, 1) + x.yard(3, 2) + x.count(2), 12);
        due("images stay", x.count(3), 1);
        due("begins at once", x.done(0), 5);
        due("none left", x.go(60), 0);
        due("its rut", x.yard(4, 11), 2);
        due("none left", x.go(60), 0);
        due("frost of hour 2 once more", x.yard(4, 11), 1);
        due("back", x.back(1), 2);
        due("start again", x.cart(1, 6), 9);
        // what was planned ahead of it holds no more
        x = Scene.told("rut 1 0 3;frost 1;frost 2;frost 60;cart plain 0 1 0 0 2 0;cart plain 1 1 0 0 1 2;");
        due("planned", x.order(0) * 10 + x.mend(0), NONE * 10 + 1);
        due("go", x.go(2), 2);
        due("planned anew", x.order(0) * 10 + x.mend(0), 40);
        due("go", x.go(1), 1);
        due("planned anew", x.order(0) * 10 + x.mend(0), 20);
        due("go", x.go(1), 1);
        due("planned anew", x.order(0) * 10 + x.mend(0), 10);
        due("go", x.go(1), 0);
        due("planned anew", x.order(0) * 10 + x.mend(0), STATE * 10);
    }

    private static void noCarts() {
        WheelsWidths x = Scene.told("rut 1 0 5;frost 3;");
        for (int h = 1; h <= 60; h++) due("jam", x.jam(h), 0);
        due("depth", x.depth(1, 0, 60), 4);
        due("deepest", x.deepest(60, 0) * 100 + x.deepest(60, 1), 403);
        due("order", x.order(0), STATE);
        due("order", x.order(10), BAD);
        due("mend", x.mend(0), 0);
        due("mend", x.mend(1), NONE);
        due("mend", x.mend(2), NONE);
        due("orders", x.orders(0), 1);
        due("orders", x.orders(10), BAD);
        for (int y = 0; y <= 10; y++) due("whose", x.whose(y), 0);
        due("forget", x.forget(0), 0);
        due("forget", x.forget(1), BAD);
        due("keep", x.keep(0), 0);
        due("back", x.back(0), 0);
        due("go", x.go(60), 0);
        due("go", x.yard(1, 10), 4);
        due("track", x.track(1, 0), 1);
        due("orders", x.orders(0), 0);
        due("orders", x.orders(10), BAD);
        due("whose", x.whose(1), 0);
    }

    private static void orderEdges() {
        WheelsWidths x = Scene.carts(1);
        due("of one", x.order(0) * 10 + x.order(10), 30);
        // each goes alone: all orders are as good, the first is by numbers
        x = Scene.told("cart plain 0 1 0 0 1 0;cart plain 1 1 0 0 1 0;cart plain 2 1 0 0 1 0;cart sledge 0 1 0 9 8 0;cart sledge 1 1 0 9 8 0;");
        due("of five", x.order(0), 7);
        for (int i = 0; i < 5; i++) due("of five " + i, x.order(10 + i), i);
        // two orders are as good as one another, the others are not
        x = Scene.told("cart plain 0 2 0 0 1 0;cart plain 1 1 0 0 2 0;cart plain 0 1 2 0 1 0;");
        due("the first", x.order(0) * 1000 + x.order(10) * 100 + x.order(11) * 10 + x.order(12), 4012);
        // the heavy one must be the last; of those ahead of it by numbers
        x = Scene.told("cart plain 0 3 0 0 1 0;cart plain 0 1 1 0 1 0;cart plain 0 1 0 0 1 0;cart plain 0 1 2 0 1 0;");
        due("no order", x.order(0), NONE);
        x.dig(1, 0, 0);
        x.shoe(0, 1);
        due("cart 2 first", x.order(0) * 10000 + x.order(10) * 1000 + x.order(11) * 100 + x.order(12) * 10 + x.order(13), 40213);
        // not all are done by any order: one is stuck
        x = Scene.told("cart plain 0 1 0 0 1 0;cart plain 1 1 0 0 1 0;rut 1 1 1;");
        due("one is stuck", x.order(0), NONE);
        x.freeze(60, true);
        due("frost too late", x.order(0), NONE);
        x.freeze(59, true);
        due("frost in time", x.order(0), 61);
        due("frost in time", x.done(1), 60);
        // the first order by which all are done is not the best one: in the bog the one that is off at once must go first
        x = Scene.told("bog 5;cart plain 0 1 9 4 6 0;cart plain 1 1 9 6 5 0;");
        due("by numbers", x.done(0) + x.done(1), 4);
        due("the other one", x.order(0) * 100 + x.order(10) * 10 + x.order(11), 310);
        x = Scene.told("bog 5;cart plain 1 1 9 6 5 0;cart plain 0 1 9 4 6 0;cart hired 2 1 9 0 1 0;");
        due("the first one", x.order(0) * 1000 + x.order(10) * 100 + x.order(11) * 10 + x.order(12), 4012);
        x = Scene.told("bog 5;cart hired 2 1 9 0 1 0;cart plain 0 1 9 4 6 0;cart plain 1 1 9 6 5 0;");
        due("the first of the best", x.order(0) * 1000 + x.order(10) * 100 + x.order(11) * 10 + x.order(12), 4021);
        // sledges alone: none goes in hour 1
        for (int n = 1; n <= 5; n++) {
            x = Scene.told("cart sledge 0 1 0 0 3 0;".repeat(n));
            due("sledges", x.order(0), 6 * n + n * (n - 1));
            due("sledges", x.order(9 + n), n - 1);
            due("sledges", x.mend(0), 0);
        }
    }

    private static void mendEdges() {
        // the yards beside a mended one stay as they are
        for (int w = 0; w < 3; w++) {
            for (int v = 0; v < 3; v++) {
                WheelsWidths x = Scene.told("rut 4 " + w + " 1;rut 5 " + v + " 1;cart plain " + w + " 1 0 3 4 0;cart plain " + v + " 1 0 6 5 0;");
                due("side by side", x.mend(0) * 100 + x.mend(1) * 10 + x.mend(2), 245);
            }
        }
        // which yards: all of a yard's ruts become 0, now alone
        WheelsWidths x = Scene.told("rut 0 0 9;rut 1 0 9;rut 1 1 9;rut 1 2 9;cart plain 0 1 0 0 1 0;cart plain 1 1 0 0 1 0;cart plain 2 1 0 0 1 0;");
        due("one yard for three", x.mend(0) * 100 + x.mend(1) * 10 + x.mend(2), 106);
        // it gets deeper again
        x = Scene.told("rut 1 0 9;cart plain 0 1 0 0 1 0;cart plain 0 1 0 0 1 0;");
        due("deeper again", x.mend(0), NONE);
        x = Scene.told("rut 1 0 9;cart plain 0 1 0 0 1 0;cart plain 0 1 1 0 1 0;");
        due("not too deep", x.mend(0) * 10 + x.mend(1), 11);
        x = Scene.told("rut 1 0 9;cart plain 0 2 0 0 1 0;cart plain 0 1 1 0 1 0;");
        due("too deep by one", x.mend(0), NONE);
        // the first one, then the second: of several the first
        x = Scene.told("yards 20;rut 0 0 1;rut 20 1 1;cart plain 0 1 0 1 0 0;cart plain 1 1 0 19 20 0;");
        due("first and last", x.mend(0), 2);
        due("first and last", x.mend(1) * 100 + x.mend(2), 20);
        x = Scene.told("yards 20;rut 19 0 1;rut 20 0 1;cart plain 0 1 0 18 20 0;");
        due("the last two", x.mend(1) * 100 + x.mend(2), 1920);
        x = Scene.told("yards 2;rut 2 0 1;cart plain 0 1 0 0 2 0;");
        due("yard 2 of 2", x.mend(0) * 10 + x.mend(1), 12);
        // of two that would help, each alone, the first one
        x = Scene.told("rut 1 0 1;rut 1 1 1;rut 2 1 1;cart plain 0 1 0 0 1 0;cart plain 1 1 0 3 2 0;");
        due("both are needed", x.mend(0) * 100 + x.mend(1) * 10 + x.mend(2), 212);
        // frost in hour 60 comes too late, in hour 59 in time
        x = Scene.told("rut 1 0 1;cart plain 0 1 0 0 1 0;frost 60;");
        due("frost too late", x.mend(0) * 10 + x.mend(1), 11);
        x = Scene.told("rut 1 0 1;cart plain 0 1 0 0 1 0;frost 59;");
        due("frost in time", x.mend(0), 0);
        // another hour in which nothing goes: start 20, then a sledge in hour 22
        x = Scene.told("rut 1 0 9;cart sledge 0 1 0 0 1 20;");
        due("a late sledge", x.mend(0), 0);
        due("a late sledge", x.order(0), 22);
        // what mending does not help: a hill, one in the other's way
        due("a hill", Scene.told("hill 1 1;cart plain 0 1 0 0 1 0;").mend(0), NONE);
        due("in the way", Scene.told("cart plain 0 1 9 0 3 0;cart plain 0 1 9 3 0 0;").mend(0), NONE);
        // ruts are as they were
        x = Scene.told("rut 1 0 9;cart plain 0 1 0 0 1 0;");
        x.mend(0);
        due("ruts are as they were", x.yard(1, 10) * 10 - x.done(0), 94);
    }

    /** Ways end at the road's ends, and at the goal. */
    private static void wayEnds() {
        int[] lasts = {2, 10, 20};
        for (int last : lasts) {
            WheelsWidths x = Scene.told("yards " + last + ";cart plain 0 1 0 0 " + last + " 0;cart sledge 0 1 0 " + last + " 0 0;");
            due("up", x.way(0, 0, 1), last);
            due("up", x.way(0, 1, 2), last);
            due("down", x.way(1, 0, 1), 2 * last);
            due("down", x.way(1, 1, 2), last);
            due("first act up", x.way(0, 0, 10), 0);
            due("last act up", x.way(0, 0, 9 + last), 0);
            due("behind the last", x.way(0, 0, 10 + last), NONE);
            due("first act down", x.way(1, 0, 10), 1);
            due("last act down", x.way(1, 0, 9 + last), 1);
            due("behind the last", x.way(1, 0, 10 + last), NONE);
            // no way beyond the ends, where the one rut is closed
            x = Scene.told("yards " + last + ";hill 1 1;cart plain 0 1 0 0 " + last + " 0;cart plain 0 1 0 2 0 0;smith 0 0;");
            due("by a smith", x.way(0, 0, 1), last + 1);
            due("no smith there", x.way(1, 0, 1), NONE);
        }
        // at the goal itself no change is needed, nor counted
        WheelsWidths x = Scene.told("smith 1 0;smith 0 0;cart plain 0 1 0 0 1 0;");
        due("acts", x.way(0, 0, 2), 1);
        due("own price", Scene.told("smith 0 9;hill 1 1;cart plain 0 1 0 0 1 0;").way(0, 1, 0), 9);
        due("price 0", Scene.told("smith 0 0;hill 1 1;cart plain 0 1 0 0 1 0;").way(0, 1, 0), 0);
    }

    /** Ruts as they are now: frost, other carts and what is deepened are out of sight. */
    private static void wayRuts() {
        WheelsWidths x = Scene.told("rut 1 0 1;frost 1;cart plain 0 1 0 0 2 3;cart plain 0 1 30 1 3 0;cart plain 0 9 30 3 1 0;bog 1;");
        due("frost", x.way(0, 0, 1), NONE);
        due("others", x.way(1, 0, 1), 2);
        due("start", x.way(2, 0, 1), 2);
        x.go(1);
        due("now", x.way(0, 0, 1), 2);
        // a rut where it stands does not matter
        due("own rut", Scene.told("rut 0 0 99;cart plain 0 1 0 0 1 0;").way(0, 0, 1), 1);
        due("own hill", Scene.told("hill 0 1;cart plain 0 1 0 0 1 0;").way(0, 0, 1), 1);
        // a smith on a hill: the change is done, the way goes on in any width
        x = Scene.told("hill 1 0;smith 1 2;hill 2 2;cart plain 0 1 0 0 2 0;");
        due("a smith on a hill", x.way(0, 0, 0) * 100 + x.way(0, 0, 1) * 10 + x.way(0, 0, 11), 234);
    }

    private static void wayKinds() {
        // a change takes 1 hour, a sledge's step 2
        WheelsWidths x = Scene.told("smith 0 1;toll 1 0 9;cart sledge 0 1 0 0 1 0;");
        due("change and step", x.way(0, 0, 0) * 100 + x.way(0, 0, 1) * 10 + x.way(0, 0, 2), 132);
        due("step", x.way(0, 1, 0) * 100 + x.way(0, 1, 1) * 10 + x.way(0, 1, 2), 921);
        String[] kinds = {"plain", "double", "smuggler", "hired"};
        int[] costs = {4, 4, 4, NONE};
        for (int i = 0; i < kinds.length; i++) {
            x = Scene.told("smith 0 4;hill 1 2;toll 1 0 9;cart " + kinds[i] + " 0 1 0 0 1 0;");
            due(kinds[i] + " changes", x.way(0, 0, 0), costs[i]);
            due(kinds[i] + " can", x.can(0), i < 3 ? 2047 : 1);
        }
    }

    /** From each width to each other one: the PRICE and 1 HOUR, never a toll, whatever the kind. */
    private static void changesOfWidth() {
        String[] kinds = {"plain", "double", "sledge", "smuggler"};
        for (String kind : kinds) {
            int step = kind.equals("sledge") ? 2 : 1;
            for (int w = 0; w < 3; w++) {
                for (int v = 0; v < 3; v++) {
                    String road = "smith 4 6;toll 4 0 2;toll 4 1 3;toll 4 2 4;toll 5 " + (v + 1) % 3 + " 9;toll 5 " + (v + 2) % 3 + " 9;";
                    String hill = kind.equals("sledge") ? "" : "hill 5 " + v + ";";
                    WheelsWidths x = Scene.told(road + hill + "cart " + kind + " " + w + " 1 0 4 5 0;");
                    due(kind + " from " + w + " to " + v, x.way(0, 0, 0), w == v ? 0 : 6);
                    due(kind + " hours", x.way(0, 0, 1), w == v ? step : 1 + step);
                    due(kind + " acts", x.way(0, 0, 2), w == v ? 1 : 2);
                    due(kind + " act", x.way(0, 0, 10), w == v ? 0 : 2 + v);
                }
            }
        }
    }

    /** Of several the fewest acts, then the first by acts. */
    private static void wayTies() {
        // toll 3 by either: step at once, or change for 3 and step free: fewer hours first
        WheelsWidths x = Scene.told("smith 0 3;toll 1 0 3;cart plain 0 1 0 0 1 0;");
        due("fewer hours", x.way(0, 0, 0) * 10 + x.way(0, 0, 2), 31);
        // as many hours, then less money
        x = Scene.told("smith 0 3;smith 1 2;hill 2 1;cart plain 0 1 0 0 2 0;");
        due("less money", x.way(0, 1, 0), 2);
        due("less money", x.way(0, 1, 10) * 10 + x.way(0, 1, 11), 3);
        x = Scene.told("smith 0 2;smith 1 3;hill 2 1;cart plain 0 1 0 0 2 0;");
        due("less money", x.way(0, 1, 0), 2);
        due("less money", x.way(0, 1, 10) * 10 + x.way(0, 1, 11), 30);
        // a smuggler's sledgeless tie: the change to 1 or 2 comes to the same, 3 is the first act; a step first is 0
        x = Scene.told("smith 0 0;smith 1 0;hill 2 2;cart plain 0 1 0 0 2 0;");
        due("the first by acts", x.way(0, 0, 10) * 10 + x.way(0, 0, 11), 4);
        x = Scene.told("smith 0 0;toll 1 2 4;toll 1 1 4;toll 1 0 9;cart plain 0 1 0 0 1 0;");
        due("the first width", x.way(0, 0, 10), 3);
        x = Scene.told("smith 1 0;toll 2 0 4;toll 2 1 4;toll 2 2 9;cart plain 2 1 0 1 2 0;");
        due("the first width", x.way(0, 0, 10), 2);
        // back to a smith at 0, or on to one at 2, as far: up is the first, by act 0
        x = Scene.told("yards 4;smith 0 0;smith 2 0;toll 4 2 9;toll 3 2 9;cart plain 2 1 0 1 4 0;hill 4 0;");
        due("on", x.way(0, 1, 10) * 100 + x.way(0, 1, 11) * 10 + x.way(0, 1, 12), 20);
    }

    /** Yards to which a cart can come: its own, the road's ends, past the goal. */
    private static void canEdges() {
        WheelsWidths x = Scene.told("yards 20;cart plain 0 1 0 10 11 0;cart plain 1 1 0 10 11 0;cart plain 2 1 0 10 11 0;hill 9 1;hill 11 2;");
        due("its own alone", x.can(0), 1 << 10);
        due("up to 10", x.can(1), (1 << 11) - 1);
        due("from 10 on", x.can(2), (1 << 21) - (1 << 10));
        x = Scene.told("yards 2;cart plain 0 1 0 0 1 0;cart plain 0 1 0 2 1 0;");
        due("up", x.can(0), 7);
        due("down", x.can(1), 7);
        x = Scene.told("yards 20;smith 20 0;hill 19 1;hill 20 0;cart sledge 0 1 0 20 19 0;cart plain 0 1 0 20 19 0;");
        due("a sledge", x.can(0), (1 << 21) - 1);
        due("by the smith at the end", x.can(1), (1 << 21) - 1);
        x = Scene.told("rut 9 0 4;cart plain 0 1 4 10 8 0;cart plain 0 1 3 10 8 0;");
        due("axle", x.can(0), 2047);
        due("axle less", x.can(1), 1024);
    }

    private static void shareEdges() {
        WheelsWidths x = new WheelsWidths();
        due("no costs", x.firm(0, 0, 0), 1);
        due("no costs", x.firm(0, 0, 1), 0);
        due("no costs", x.shares(0), 1);
        due("no costs", x.shares(1), 0);
        x.price(7, 1);
        due("one too much", x.shares(0), 0);
        due("one too much", x.shares(1), NONE);
        for (int some = 1; some <= 6; some++) x.price(some, 1);
        due("one of them pays", x.shares(0), 3);
        due("one of them pays", x.shares(1), 1);
        x.price(4, 0);
        due("not c", x.shares(0), 2);
        due("not c", x.shares(1), 100);
        x.price(2, 0);
        due("nor b", x.shares(0), 1);
        due("nor b", x.shares(1), 10000);
        x.price(5, 0);
        due("nor a", x.shares(0), 0);
        due("nor a", x.shares(1), NONE);
        for (int some = 1; some <= 7; some++) x.price(some, 60);
        due("all", x.shares(0), 1891);
        due("all", x.shares(1), 60);
        x.price(4, 0);
        due("c pays none", x.shares(0), 61);
        due("c pays none", x.shares(1), 6000);
        x.price(2, 0);
        due("a pays all", x.shares(0), 1);
        due("a pays all", x.shares(1), 600000);
    }

    /** From where they begin, without that yard, to their goals. */
    private static void trackEdges() {
        WheelsWidths x = Scene.told("yards 20;cart plain 0 1 0 5 9 0;cart double 1 1 0 9 5 0;cart hired 2 1 0 0 20 0;cart smuggler 0 1 0 20 0 0;"
            + "cart sledge 1 1 0 0 20 0;");
        int[] yards = {0, 1, 4, 5, 6, 8, 9, 10, 19, 20};
        int[] last = {8, 12, 12, 14, 15, 15, 13, 12, 12, 4};
        for (int i = 0; i < yards.length; i++) due("whose " + yards[i], x.whose(yards[i]), last[i]);
        due("all orders", x.orders(0), 120);
        int[] first = new int[yards.length];
        for (int i = 0; i < yards.length; i++) {
            x.track(yards[i], 1);
            first[i] = x.orders(0);
            x.forget(0);
        }
        // cart 1 alone makes tracks of width 1: in 5 to 8, not in 9, where it begins
        int[] fit = {0, 0, 0, 40, 30, 30, 0, 0, 0, 0};
        for (int i = 0; i < yards.length; i++) due("width 1 in " + yards[i], first[i], fit[i]);
    }

    private static void trackFit() {
        // five carts in one rut: the last one of width 0 is behind all others
        WheelsWidths x = Scene.told("cart plain 0 1 0 0 1 0;" + "cart plain 1 1 0 0 1 0;".repeat(4));
        x.track(1, 0);
        due("24 of 120", x.orders(0), 24);
        int[] order = {1, 2, 3, 4, 0};
        for (int i = 0; i < 5; i++) due("order " + i, x.orders(10 + i), order[i]);
        due("the last one", x.whose(1), 1);
        x.track(1, 1);
        due("two widths in one yard", x.orders(0), 0);
        due("nobody", x.whose(1), 0);
        due("no order", x.orders(10), NONE);
        due("forget the last", x.forget(1), 2);
        due("24 of 120", x.orders(0), 24);
        // eight tracks hold all, the eighth too
        for (int i = 2; i <= 8; i++) due("track " + i, x.track(1, i < 8 ? 0 : 2), i);
        due("the eighth", x.orders(0), 0);
        due("full", x.track(1, 0), -3);
        x.forget(7);
        due("seven", x.orders(0), 24);
        // where none goes, no order fits; a sledge makes no track
        x.forget(0);
        x.track(2, 0);
        due("where none goes", x.orders(0), 0);
        due("where none goes", x.whose(1), 0);
        x = Scene.told("cart sledge 0 1 0 0 1 0;");
        due("a sledge", x.orders(0), 1);
        due("a sledge", x.whose(1), 0);
        x.track(1, 0);
        due("a sledge", x.orders(0), 0);
        // a hill of another width takes a track, as it is a yard and a width
        due("a hill", Scene.told("hill 1 1;").track(1, 0), 1);
    }

    /** The tracks that are read are those of the cells: three carts, each alone in its yard, fit them, and no others. */
    private static void tracksRead() {
        for (int lane = 0; lane < 3; lane++) {
            for (int f = 0; f <= 34; f++) {
                int[] cells = {1, 0, 2, 1, 3, 2};
                WheelsWidths x = threeAlone(lane, f, cells);
                due("read from " + f, x.read(1, lane, f, 3), 3);
                due("fit", x.orders(0), 6);
            }
            for (int i = 0; i < 6; i++) {
                int[] cells = {1, 0, 2, 1, 3, 2};
                cells[i] = (cells[i] + 1) % 3;
                WheelsWidths x = threeAlone(lane, 5, cells);
                due("read", x.read(1, lane, 5, 3), 3);
                due("fit not, for cell " + i, x.orders(0), 0);
            }
        }
        // all eight, behind one another, and a refused one at each place
        for (int i = 0; i < 8; i++) {
            int[] cells = {1, 0, 2, 1, 3, 2, 1, 0, 2, 1, 3, 2, 1, 0, 2, 1};
            WheelsWidths x = threeAlone(2, 0, cells);
            x.lay(1, 2 * i, 11);
            due("refused at " + i, x.read(1, 2, 0, 8), -20 - i);
            x.lay(1, 2 * i, 10);
            due("all", x.read(1, 2, 0, 8), 8);
            due("one where none goes", x.orders(0), 0);
            x.forget(i);
            due("those ahead of it", x.orders(0), 6);
            x.forget(0);
            x.lay(1, 2 * i, cells[2 * i]);
            x.lay(1, 2 * i + 1, 3);
            due("refused at " + i, x.read(1, 2, 0, 8), -20 - i);
            x.lay(1, 2 * i + 1, -1);
            due("refused at " + i, x.read(1, 2, 0, 8), -20 - i);
            due("those ahead of it", x.read(1, 2, 0, i), i);
        }
    }

    private static WheelsWidths threeAlone(int lane, int f, int[] cells) {
        WheelsWidths x = Scene.told("cart plain 0 1 0 0 1 0;cart plain 1 1 0 3 2 0;cart plain 2 1 0 4 3 0;");
        x.sheet(1, lane, 40);
        for (int i = 0; i < cells.length; i++) x.lay(1, f + i, cells[i]);
        return x;
    }

    /** An image holds ruts, carts, frost, costs and tracks, not the tape, the sheets, torn, the fault. */
    private static void imageEdges() {
        WheelsWidths x = Scene.half();
        due("keep 1", x.keep(1), 0);
        due("images", x.count(3), 2);
        x.end(5);
        x.read(3, 0, 0, 1);
        x.sheet(0, 1, 3);
        x.dig(6, 2, 77);
        x.freeze(1, false);
        x.price(1, 60);
        x.forget(0);
        x.go(60);
        due("back 1", x.back(1), 5);
        due("tape", x.count(4), 5);
        due("torn", x.torn(), 1);
        due("cells", x.count(5), 3);
        due("rut", x.yard(6, 12), 0);
        due("frost", x.frost(1), 1);
        due("cost", x.cost(1), 9);
        due("tracks", x.count(2), 3);
        due("carts", x.count(1), 5);
        // an image stays as it was kept, however often it is taken back
        x.dig(6, 2, 77);
        due("back again", x.back(1), 5);
        due("rut", x.yard(6, 12), 0);
        due("keep over it", x.keep(1), 1);
        due("images", x.count(3), 2);
        due("the other one", x.back(0), 5);
        due("the other one", x.count(2), 1);
        // an image of no carts
        x = new WheelsWidths();
        x.keep(0);
        due("of no carts", x.back(0), 0);
        due("images", x.count(3), 1);
        x.text();
        due("a text", x.count(3), 0);
        due("a text", x.back(0), STATE);
        due("a text", x.keep(0), 0);
    }
}
