/** Objects to ask, made anew for each question, so that no object is called more than 512 times. */
final class Scene {
    /** A call of an object with all its numbers but one. */
    interface Numbered {
        int of(WheelsWidths x, int v);
    }

    /** A call of an object with all its numbers. */
    interface Call {
        int on(WheelsWidths x);
    }

    static final String ROAD = "yards 6;bog 3;hill 5 1;smith 2 4;smith 0 0;toll 1 0 3;toll 6 2 9;rut 4 0 5;rut 5 1 2;rut 1 2 1;"
        + "frost 1;frost 7;frost 60;cost 1 9;cost 2 8;cost 4 7;cost 3 14;cost 5 13;cost 6 12;cost 7 18;";
    static final String CARTS = "cart plain 0 3 9 0 4 0;cart double 1 2 9 1 6 0;cart sledge 2 5 0 0 6 1;"
        + "cart hired 0 1 9 6 0 2;cart smuggler 1 1 9 6 1 3;";
    private static final String ON_TAPE = "yards 4;bog 1;cart plain 0 1 9 0 4 0;cost 5 5;";

    private Scene() {
    }

    static WheelsWidths told(String text) {
        WheelsWidths x = new WheelsWidths();
        Check.put(x, text);
        if (x.text() < 0) throw new IllegalArgumentException(text);
        return x;
    }

    static WheelsWidths yards(int last) {
        return told("yards " + last + ";");
    }

    /** A road of yards 0 to 10 with n plain carts, each of which goes from yard 0 to yard 3. */
    static WheelsWidths carts(int n) {
        return told("cart plain 0 1 30 0 3 0;".repeat(n));
    }

    /** All that the document tells of, THE TAPE of 400 bytes, 5 CARTS, 8 TRACKS, an image 0 and no image 1. */
    static WheelsWidths full() {
        WheelsWidths x = half();
        x.end(0);
        Check.put(x, ON_TAPE + " ".repeat(400 - ON_TAPE.length()));
        while (x.count(2) < 8) x.track(x.count(2) % 7, x.count(2) % 3);
        return x;
    }

    /** The same with 48 bytes on THE TAPE and 3 TRACKS. */
    static WheelsWidths half() {
        WheelsWidths x = told(ROAD + CARTS);
        x.track(1, 0);
        x.keep(0);
        x.track(4, 1);
        x.track(6, 2);
        x.dig(2, 0, 8);
        x.load(1, 4);
        x.freeze(9, true);
        x.price(6, 13);
        sheet(x, 0, 0, 40, 1, 2, 99, 0, 5, -1, 6, 0);
        sheet(x, 1, 1, 6, 4, 1, 3, 300, 2, 2);
        sheet(x, 2, 2, 0);
        Check.put(x, ON_TAPE + " ".repeat(48 - ON_TAPE.length()));
        return x;
    }

    static void sheet(WheelsWidths x, int k, int lane, int n, int... cells) {
        x.sheet(k, lane, n);
        for (int i = 0; i < cells.length; i++) x.lay(k, i, cells[i]);
    }
}
