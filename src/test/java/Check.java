/** Counts the answers that are not as due, and hands texts to an object. */
final class Check {
    private int wrong = 0;
    private int made = 0;

    void due(String call, long got, long want) {
        made++;
        if (got == want) return;
        wrong++;
        System.out.println(call + " answered " + got + ", due is " + want);
    }

    /** Puts a text on THE TAPE, which is empty, byte by byte as the characters' numbers tell. */
    static void put(WheelsWidths x, String text) {
        for (int i = 0; i < text.length(); i += 8) x.feed(eight(text, i));
        x.end(text.length());
    }

    static long eight(String text, int from) {
        long v = 0;
        for (int i = from; i < from + 8; i++) v = v << 8 | (i < text.length() ? text.charAt(i) & 255 : ' ');
        return v;
    }

    /** A new object that a text has told. */
    WheelsWidths told(String text) {
        WheelsWidths x = new WheelsWidths();
        put(x, text);
        int answer = x.text();
        due("text of '" + text + "' refused", answer < 0 ? 1 : 0, 0);
        return x;
    }

    /** What a text is answered, by a new object: its place, and its fault. */
    void refused(String text, int place, int fault) {
        WheelsWidths x = new WheelsWidths();
        put(x, text);
        due("text of '" + text + "'", x.text(), -10 - place);
        due("fault of '" + text + "'", x.fault(), fault);
    }

    void finish(String name) {
        System.out.println(name + ": " + made + " answers, " + wrong + " not as due");
        if (wrong != 0 || made == 0) System.exit(1);
    }
}
