/** The edges of a text: its bytes, tokens, numbers and lines, and the faults with their places. */
public final class TextBoundsTest {
    private static final int BAD = -1, NONE = -4;
    private static final Check T = new Check();
    /** Every line there is, token by token. */
    private static final String[] LINES = {"yards 7 ;", "bog 1 ;", "hill 1 2 ;", "smith 1 2 ;", "toll 1 2 3 ;", "rut 1 2 3 ;", "frost 4 ;",
        "cart plain 1 2 3 4 5 6 ;", "cart smuggler 1 2 3 4 5 6 ;", "cost 1 2 ;"};

    public static void main(String[] args) {
        nothing();
        everyByteFirst();
        everyByteBehindAName();
        everyByteBehindANumber();
        everyByteBehindASign();
        blanks();
        figures();
        namesAlmost();
        linesCut();
        linesWrong();
        numbersOfLines();
        yardsOfLines();
        told();
        toldTwice();
        firstOfTwo();
        carts();
        rutsOfHills();
        fullTape();
        cutTape();
        latestFault();
        nextText();
        takenTellsAll();
        T.finish("TextBoundsTest");
    }

    private static void taken(String text, int lines) {
        WheelsWidths x = new WheelsWidths();
        Check.put(x, text);
        T.due("text of '" + text + "'", x.text(), lines);
        T.due("fault of '" + text + "'", x.fault(), 0);
        T.due("tape behind '" + text + "'", x.count(4), 0);
    }

    /** A text of nothing, or of blanks alone, is taken: no lines. */
    private static void nothing() {
        int[] lengths = {0, 1, 8, 399, 400};
        for (int length : lengths) taken(" ".repeat(length), 0);
        WheelsWidths x = new WheelsWidths();
        T.due("text of a new object", x.text(), 0);
        T.due("fault of a new object", x.fault(), 0);
    }

    private static boolean isLetter(int b) {
        return "abcdefghijklmnopqrstuvwxyz".indexOf(b) >= 0;
    }

    private static boolean isFigure(int b) {
        return "0123456789".indexOf(b) >= 0;
    }

    private static void everyByteFirst() {
        for (int b = 0; b < 256; b++) {
            String text = "" + (char) b;
            if (b == ' ') taken(text, 0);
            else T.refused(text, 0, isLetter(b) || isFigure(b) || b == ';' ? 2 : 1);
        }
    }

    private static void everyByteBehindAName() {
        for (int b = 0; b < 256; b++) {
            String text = "yards" + (char) b + "9;";
            if (b == ' ' || b == '0' || b == '1') taken(text, 1);
            else if (isFigure(b)) T.refused(text, 5, 3);
            else if (isLetter(b)) T.refused(text, 0, 2);
            else T.refused(text, 5, b == ';' ? 2 : 1);
        }
    }

    private static void everyByteBehindANumber() {
        for (int b = 0; b < 256; b++) {
            String text = "frost 5" + (char) b + ";";
            if (b == ' ' || isFigure(b)) taken(text, 1);
            else if (b == ';') T.refused(text, 8, 2);
            else T.refused(text, 7, isLetter(b) ? 2 : 1);
        }
    }

    private static void everyByteBehindASign() {
        for (int b = 0; b < 256; b++) {
            String text = "frost 5;" + (char) b;
            if (b == ' ') taken(text, 1);
            else T.refused(text, 8, isLetter(b) || isFigure(b) || b == ';' ? 2 : 1);
        }
    }

    /** Ahead, between, behind, as many as wanted; needed between two names and between two numbers alone. */
    private static void blanks() {
        taken("cart plain0 1 2 3 4 5;bog3;hill4 1;cost1 2;", 4);
        taken("  cart   plain   0   1   2   3   4   5   ;   bog   3   ;   ", 2);
        taken(" ".repeat(200) + "bog" + " ".repeat(190) + "3;" + " ".repeat(5), 1);
        T.refused("cartplain 0 1 2 3 4 5;", 0, 2);
        T.refused("cart plain 01 2 3 4 5;", 21, 2);
        T.refused("hill 41;", 5, 3);
        T.refused("b og 3;", 0, 2);
        T.refused("frost 1 2;", 8, 2);
        T.refused("bog 3;  bog", 11, 2);
        T.refused("bog 3;  bog   ", 14, 2);
    }

    /** Numbers of 1 or 2 figures. */
    private static void figures() {
        for (int v = 1; v <= 9; v++) {
            taken("frost " + v + ";", 1);
            taken("frost 0" + v + ";", 1);
            T.due("frost 0" + v, Scene.told("frost 0" + v + ";").frost(v), 1);
            T.due("frost " + v, Scene.told("frost " + v + ";").frost(v), 1);
        }
        taken("bog 00;", 1);
        T.refused("frost 00;", 6, 3);
        T.refused("frost 000;", 6, 1);
        T.refused("frost 001;", 6, 1);
        T.refused("frost 100;", 6, 1);
        T.refused("frost 1000", 6, 1);
        T.refused("bog 3;  123;", 8, 1);
        T.refused("1".repeat(400), 0, 1);
        T.refused("frost " + "1".repeat(394), 6, 1);
        T.refused("frost 4294967297;", 6, 1);
    }

    private static void namesAlmost() {
        String[] names = {"yards", "bog", "hill", "smith", "toll", "rut", "frost", "cart", "cost"};
        for (String name : names) {
            T.refused(name.substring(0, name.length() - 1) + " 1 1 1;", 0, 2);
            T.refused(name.substring(1) + " 1 1 1;", 0, 2);
            T.refused(name + "s 1 1 1;", 0, 2);
            T.refused("a" + name + " 1 1 1;", 0, 2);
            for (int i = 0; i < name.length(); i++) {
                char other = name.charAt(i) == 'z' ? 'y' : 'z';
                T.refused(name.substring(0, i) + other + name.substring(i + 1) + " 1 1 1;", 0, 2);
            }
        }
        String[] kinds = {"plain", "double", "sledge", "hired", "smuggler"};
        for (int kind = 0; kind < 5; kind++) {
            String name = kinds[kind];
            T.due(name, Scene.told("cart " + name + " 1 2 3 4 5 6;").cart(0, 0), kind);
            T.refused("cart " + name.substring(0, name.length() - 1) + " 1 2 3 4 5 6;", 5, 2);
            T.refused("cart " + name.substring(1) + " 1 2 3 4 5 6;", 5, 2);
            T.refused("cart " + name + "s 1 2 3 4 5 6;", 5, 2);
            T.refused(name + " 1 2 3 4 5 6;", 0, 2);
        }
        T.refused("cart cart 1 2 3 4 5 6;", 5, 2);
        T.refused("z".repeat(400), 0, 2);
    }

    /** The end where a token is asked for: fault 2 at the length, blanks and all. */
    private static void linesCut() {
        for (String line : LINES) {
            taken(line, 1);
            taken(line.replace(" ;", ";"), 1);
            String[] tokens = line.split(" ");
            String ahead = tokens[0];
            for (int i = 1; i < tokens.length; i++) {
                T.refused(ahead, ahead.length(), 2);
                T.refused(ahead + "   ", ahead.length() + 3, 2);
                ahead += " " + tokens[i];
            }
        }
    }

    /** A token of another sort in place of each one: fault 2 there; one that is none, a number that is too long: fault 1. */
    private static void linesWrong() {
        for (String line : LINES) {
            String[] tokens = line.split(" ");
            String ahead = "";
            for (int i = 0; i < tokens.length; i++) {
                char first = tokens[i].charAt(0);
                String[] others = {"zz", "1", ";"};
                for (String other : others) {
                    boolean sameSort = isFigure(first) && other.equals("1") || first == ';' && other.equals(";");
                    if (!sameSort) T.refused(ahead + other, ahead.length(), 2);
                    if (!sameSort) T.refused(ahead + other + ".", ahead.length(), 2);
                }
                T.refused(ahead + ".", ahead.length(), 1);
                T.refused(ahead + "123", ahead.length(), 1);
                T.refused(ahead + (char) 160, ahead.length(), 1);
                ahead += tokens[i] + " ";
            }
            T.refused(ahead + ".", ahead.length(), 1);
        }
    }

    /** A number of a line: taken from least to most, fault 3 at its place below and above. */
    private static void number(String ahead, String behind, int least, int most) {
        taken(ahead + least + behind, 2);
        taken(ahead + most + behind, 2);
        if (least > 0) T.refused(ahead + (least - 1) + behind, ahead.length(), 3);
        if (least > 0) T.refused(ahead + "0", ahead.length(), 3);
        if (most < 99) T.refused(ahead + (most + 1) + behind, ahead.length(), 3);
        // it is out of its bounds when it is read, whatever is behind it
        if (most < 99) T.refused(ahead + "99 .", ahead.length(), 3);
        if (most < 99) T.refused(ahead + "99", ahead.length(), 3);
        T.refused(ahead + "100" + behind, ahead.length(), 1);
        T.refused(ahead + "-1" + behind, ahead.length(), 1);
        T.refused(ahead + "+1" + behind, ahead.length(), 1);
    }

    private static void numbersOfLines() {
        String road = "yards 20;";
        number("bog 2;yards ", ";", 2, 20);
        number(road + "bog ", ";", 0, 20);
        number(road + "hill ", " 0;", 0, 20);
        number(road + "hill 1 ", ";", 0, 2);
        number(road + "smith ", " 0;", 0, 20);
        number(road + "smith 1 ", ";", 0, 9);
        number(road + "toll ", " 0 0;", 0, 20);
        number(road + "toll 1 ", " 0;", 0, 2);
        number(road + "toll 1 1 ", ";", 0, 9);
        number(road + "rut ", " 0 0;", 0, 20);
        number(road + "rut 1 ", " 0;", 0, 2);
        number(road + "rut 1 1 ", ";", 0, 99);
        number(road + "frost ", ";", 1, 60);
        number(road + "cost ", " 0;", 1, 7);
        number(road + "cost 1 ", ";", 0, 60);
        String[] kinds = {"plain", "double", "sledge", "hired", "smuggler"};
        for (String kind : kinds) {
            String cart = road + "cart " + kind + " ";
            number(cart, " 1 1 1 2 1;", 0, 2);
            number(cart + "1 ", " 1 1 2 1;", 1, 9);
            number(cart + "1 1 ", " 1 2 1;", 0, 30);
            number(cart + "1 1 1 ", " 2 1;", 0, 20);
            number(cart + "1 1 1 2 ", " 1;", 0, 20);
            number(cart + "1 1 1 1 2 ", ";", 0, 20);
        }
    }

    /** A yard that there is not: fault 6 at the length; the last one is taken, wherever yards is told. */
    private static void yardsOfLines() {
        String[] lines = {"bog #;", "hill # 0;", "smith # 0;", "toll # 0 0;", "rut # 0 0;", "cart plain 0 1 0 # 1 0;",
            "cart plain 0 1 0 1 # 0;", "cart sledge 0 1 0 # 1 0;"};
        for (String line : lines) {
            int[] lasts = {2, 9, 19};
            for (int last : lasts) {
                String yards = "yards " + last + ";";
                String good = line.replace("#", "" + last);
                String wrong = line.replace("#", "" + (last + 1));
                taken(yards + good, 2);
                taken(good + yards, 2);
                taken(line.replace("#", "0") + yards, 2);
                T.refused(yards + wrong, yards.length() + wrong.length(), 6);
                T.refused(wrong + yards, yards.length() + wrong.length(), 6);
                T.refused(wrong + yards + "   ", yards.length() + wrong.length() + 3, 6);
            }
            String wrong = line.replace("#", "11");
            taken(line.replace("#", "10"), 1);
            T.refused(wrong, wrong.length(), 6);
            taken(line.replace("#", "20") + "yards 20;", 2);
            taken(wrong + "yards 11;", 2);
        }
    }

    private static void told() {
        WheelsWidths x = Scene.told("yards 20;bog 0;bog 20;hill 0 0;hill 20 2;smith 0 0;smith 20 9;toll 0 0 0;toll 20 2 9;rut 0 0 0;"
            + "rut 20 2 99;rut 19 0 98;toll 19 2 8;cost 1 0;cost 2 60;cost 7 59;");
        T.due("last", x.count(0), 20);
        int[] whats = {0, 1, 2, 10, 20, 12, 22};
        int[] first = {1, 1, 0, 0, 0, NONE, 0};
        int[] last = {4, 1, 9, NONE, 0, 99, 9};
        int[] other = {7, 0, NONE, 98, 0, 0, 8};
        for (int i = 0; i < whats.length; i++) {
            T.due("yard 0, " + whats[i], x.yard(0, whats[i]), first[i]);
            T.due("yard 20, " + whats[i], x.yard(20, whats[i]), last[i]);
            T.due("yard 19, " + whats[i], x.yard(19, whats[i]), other[i]);
        }
        T.due("cost 1", x.cost(1), 0);
        T.due("cost 2", x.cost(2), 60);
        T.due("cost 7", x.cost(7), 59);
        x = Scene.told("yards 20;cart plain 0 1 0 0 20 0;cart smuggler 2 9 30 20 0 20;frost 1;frost 60;");
        int[] least = {0, 0, 1, 0, 0, 20, 0};
        int[] most = {4, 2, 9, 30, 20, 0, 20};
        for (int what = 0; what < 7; what++) {
            T.due("the least cart, " + what, x.cart(0, what), least[what]);
            T.due("the greatest cart, " + what, x.cart(1, what), most[what]);
        }
        for (int h = 1; h <= 60; h++) T.due("frost " + h, x.frost(h), h == 1 || h == 60 ? 1 : 0);
        T.due("yard 2 of 2", Scene.told("yards 2;").yard(2, 0) * 10 + Scene.told("yards 2;").yard(3, 0), 70 + BAD);
    }

    /** What is told for the second time: fault 4 at its first number, at the name of yards. */
    private static void toldTwice() {
        for (int y = 0; y <= 20; y++) {
            again("yards 20;bog " + y + ";", "bog ", y + ";");
            again("yards 20;hill " + y + " 1;", "hill ", y + " 1;");
            again("yards 20;smith " + y + " 9;", "smith ", y + " 9;");
            int next = (y + 1) % 21;
            taken("yards 20;bog " + y + ";bog " + next + ";hill " + y + " 1;hill " + next + " 1;smith " + y + " 0;smith " + next + " 0;", 7);
        }
        for (int h = 1; h <= 60; h++) {
            again("frost " + h + ";", "frost ", h + ";");
            taken("frost " + h + ";frost " + (h % 60 + 1) + ";", 2);
        }
        for (int some = 1; some <= 7; some++) {
            again("cost " + some + " 0;", "cost ", some + " 60;");
            taken("cost " + some + " 0;cost " + (some % 7 + 1) + " 60;", 2);
        }
        again("yards 2;", "", "yards 2;");
        again("yards 20;bog 3;", "", "yards");
        again("yards 20;bog 3;", "", "yards 1;");
        again("yards 20;bog 3;", "", "yards yards;");
        // no fault: a toll and a rut told again, the last one holds
        WheelsWidths x = Scene.told("toll 1 2 3;rut 1 2 3;toll 1 2 0;rut 1 2 0;rut 1 1 9;rut 1 1 8;");
        T.due("told again", x.yard(1, 22) * 100 + x.yard(1, 12) * 10 + x.yard(1, 11), 8);
    }

    private static void again(String ahead, String name, String rest) {
        taken(ahead, ahead.split(";").length);
        T.refused(ahead + name + rest, (ahead + name).length(), 4);
        // it is met before what is behind it is read
        int first = rest.indexOf(' ') < 0 ? rest.indexOf(';') : rest.indexOf(' ');
        if (first > 0) T.refused(ahead + name + rest.substring(0, first) + " .", (ahead + name).length(), 4);
        if (first > 0) T.refused(ahead + name + rest.substring(0, first), (ahead + name).length(), 4);
    }

    /** Of two faults the one that is met first, as tokens are read. */
    private static void firstOfTwo() {
        T.refused("bog 21 .", 4, 3);
        T.refused("bog . 21", 4, 1);
        T.refused("zog .", 0, 2);
        T.refused("bog 3 3 .", 6, 2);
        T.refused("bog 1;bog 1.", 10, 4);
        T.refused("bog 1;bog.", 9, 1);
        T.refused("cart plain 3 .", 11, 3);
        T.refused("cart plain 0 1 0 5 5.", 19, 4);
        T.refused("cart plain 0 1 0 20 20 99;", 20, 4);
        T.refused("cart plain 0 1 0 21 21 0;", 17, 3);
        T.refused("cart plain 0 1 0 11 11 0;", 20, 4);
        T.refused("bog 11;bog 11;", 11, 4);
        T.refused("bog 11;yards 10;bog 10;", 23, 6);
        T.refused("bog 11;yards 1;", 13, 3);
        T.refused("yards 1;yards 2;", 6, 3);
        T.refused("hill 1 0;rut 1 1 0;bog", 22, 2);
        T.refused("hill 1 0;rut 1 1 0;bog 11;", 26, 6);
        T.refused("bog 11;hill 1 0;rut 1 1 0;", 26, 6);
        T.refused("hill 11 0;rut 11 1 0;", 21, 6);
    }

    /** Five carts at most; the sixth one's name has fault 5. */
    private static void carts() {
        String cart = "cart plain 0 1 0 0 1 0;";
        for (int n = 0; n <= 5; n++) {
            taken(cart.repeat(n), n);
            T.due(n + " carts", Scene.carts(n).count(1), n);
        }
        int place = 5 * cart.length();
        T.refused(cart.repeat(6), place, 5);
        T.refused(cart.repeat(5) + "cart", place, 5);
        T.refused(cart.repeat(5) + "cart.", place, 5);
        T.refused(cart.repeat(5) + "cart plain 9", place, 5);
        T.refused(cart.repeat(5) + "  cart", place + 2, 5);
        T.refused(cart.repeat(5) + "carts", place, 2);
        T.refused(cart.repeat(4) + "cart cart", 4 * cart.length() + 5, 2);
        taken(cart.repeat(5) + "bog 1;", 6);
        // a goal that is the yard
        for (int y = 0; y <= 20; y++) T.refused("yards 20;cart plain 0 1 0 " + y + " " + y + " 0;", 26 + ("" + y).length() + 1, 4);
        T.refused("yards 20;cart plain 0 1 0 7 07 0;", 28, 4);
        taken("cart plain 0 1 0 0 1 0;cart plain 0 1 0 1 0 0;", 2);
    }

    private static void rutsOfHills() {
        for (int y = 0; y <= 20; y++) {
            for (int w = 0; w < 3; w++) {
                String hill = "yards 20;hill " + y + " " + w + ";";
                for (int v = 0; v < 3; v++) {
                    String rut = "rut " + y + " " + v + " 0;";
                    if (v == w) taken(hill + rut, 3);
                    else T.refused(hill + rut, hill.length() + rut.length(), 7);
                    if (v != w) T.refused(rut + hill + " ", hill.length() + rut.length() + 1, 7);
                    taken(hill + "toll " + y + " " + v + " 9;", 3);
                }
            }
        }
    }

    /** A text may fill THE TAPE, and its fault may lie at the last byte or at the length. */
    private static void fullTape() {
        String forty = "toll0 0 0;".repeat(40);
        taken(forty, 40);
        T.refused(forty.substring(0, 399) + " ", 400, 2);
        T.refused(forty.substring(0, 399) + ".", 399, 1);
        T.refused(forty.substring(0, 398) + "10", 398, 3);
        T.refused(forty.substring(0, 399), 399, 2);
        T.refused("toll0 0 0;".repeat(39) + "bog    11;", 400, 6);
        T.refused("hill 0 1;" + "toll0 0 0;".repeat(38) + "rut   0 0 0", 400, 2);
        T.refused("hill 0 1;" + "toll0 0 0;".repeat(38) + "rut  0 0 0;", 400, 7);
        T.refused("toll0 0 0;".repeat(39) + "toll0 0 0 ", 400, 2);
        WheelsWidths x = new WheelsWidths();
        Check.put(x, forty);
        T.due("full", x.feed(0), -3);
        T.due("full", x.text(), 40);
        T.due("empty", x.feed(0), 8);
    }

    /** What end cut off does not come again. */
    private static void cutTape() {
        WheelsWidths x = new WheelsWidths();
        Check.put(x, "bog 3;zz");
        x.end(6);
        T.due("cut", x.text(), 1);
        Check.put(x, "bog 3;bog 4;zzzz");
        x.end(6);
        x.feed(0x626F6720353B2020L);
        T.due("cut, and more", x.text(), 2);
        T.due("yard 3", x.yard(3, 1), 1);
        T.due("yard 4", x.yard(4, 1), 0);
        T.due("yard 5", x.yard(5, 1), 1);
        Check.put(x, "bog 3;bo");
        T.due("refused", x.text(), -16);
        Check.put(x, "bog 4;");
        T.due("the tape was empty", x.text(), 1);
        Check.put(x, "frost 12");
        x.end(7);
        x.feed(0x3B20202020202020L);
        T.due("a number cut", x.text(), 1);
        T.due("a number cut", x.frost(1), 1);
        Check.put(x, "frost 12");
        x.end(0);
        T.due("all cut", x.text(), 0);
    }

    /** The fault of the latest text; 0 behind one that is taken. */
    private static void latestFault() {
        String[] texts = {"", ".", "zz", "bog 21;", "bog 1;bog 1;", "cart plain 0 1 0 0 1 0;".repeat(6), "bog 11;", "hill 1 0;rut 1 1 0;", "bog 1;", " "};
        int[] faults = {0, 1, 2, 3, 4, 5, 6, 7, 0, 0};
        WheelsWidths x = new WheelsWidths();
        for (int i = 0; i < texts.length; i++) {
            Check.put(x, texts[i]);
            T.due("not yet", x.fault(), i == 0 ? 0 : faults[i - 1]);
            x.text();
            T.due("fault " + i, x.fault(), faults[i]);
            x.feed(0);
            x.end(0);
            x.dig(0, 0, 100);
            T.due("still fault " + i, x.fault(), faults[i]);
        }
    }

    /** What an earlier text told, taken or refused, is no matter in the next one. */
    private static void nextText() {
        String cart = "cart plain 0 1 0 0 1 0;";
        String[] firsts = {"yards 20;bog 20;hill 1 1;smith 1 1;toll 1 1 1;rut 1 1 1;frost 1;cost 1 1;" + cart.repeat(5), "bog 11;", "rut 1 1 5;",
            "hill 1 1;rut 1 0 5;", "yards 2;bog 2;", "yards 2;bog 3;", "cost 1 1;cost 1 1;", "cost 1 1;cost 2 1;."};
        String[] nexts = {"yards 3;", "bog 1;", "hill 1 0;", "smith 1 2;", "frost 1;", "cost 1 60;", "hill 1 2;rut 1 2 3;", cart.repeat(5), "bog 10;", ""};
        int[] lines = {1, 1, 1, 1, 1, 1, 2, 5, 1, 0};
        for (String first : firsts) {
            for (int i = 0; i < nexts.length; i++) {
                WheelsWidths x = new WheelsWidths();
                Check.put(x, first);
                x.text();
                Check.put(x, nexts[i]);
                T.due("'" + nexts[i] + "' behind '" + first + "'", x.text(), lines[i]);
                T.due("fault of '" + nexts[i] + "' behind '" + first + "'", x.fault(), 0);
                T.due("its carts", x.count(1), lines[i] == 5 ? 5 : 0);
                T.due("its yards", x.count(0), i == 0 ? 3 : 10);
            }
        }
    }

    /** What a text does not tell is as at first; no tracks, no images; sheets stay. */
    private static void takenTellsAll() {
        WheelsWidths x = Scene.full();
        x.end(0);
        T.due("cast", x.read(0, 1, 0, 1), 0);
        T.due("a text of nothing", x.text(), 0);
        T.due("torn stays", x.torn(), 3);
        WheelsWidths made = new WheelsWidths();
        for (int y = 0; y <= 11; y++) {
            int[] whats = {0, 1, 2, 10, 11, 12, 20, 21, 22};
            for (int what : whats) T.due("yard " + y + " " + what, x.yard(y, what), made.yard(y, what));
        }
        for (int h = 1; h <= 60; h++) T.due("frost " + h, x.frost(h), 0);
        for (int some = 1; some <= 7; some++) T.due("cost " + some, x.cost(some), 0);
        for (int what = 0; what <= 4; what++) T.due("count " + what, x.count(what), made.count(what));
        T.due("cart", x.cart(0, 0), BAD);
        T.due("back 0", x.back(0), -2);
        T.due("back 1", x.back(1), -2);
        T.due("orders", x.orders(0), 1);
        T.due("cells", x.count(5), 40);
        T.due("lay", x.lay(3, 0, 0), -11);
        T.due("lay", x.lay(2, 0, 0), -12);
        T.due("lay", x.lay(1, 5, 0), 1);
        T.due("read", x.read(0, 0, 0, 1), 1);
        T.due("read", x.read(0, 0, 2, 1), -20);
        T.due("read", x.read(1, 1, 2, 1), -20);
    }
}
