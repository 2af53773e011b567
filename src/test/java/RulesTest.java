import java.io.IOException;
import java.lang.management.ManagementFactory;
import java.lang.reflect.Constructor;
import java.lang.reflect.Field;
import java.lang.reflect.Method;
import java.lang.reflect.Modifier;
import java.nio.file.Files;
import java.nio.file.Path;
import java.util.HashSet;
import java.util.List;
import java.util.Set;
import java.util.regex.Matcher;
import java.util.regex.Pattern;

/** What LANGUAGE.md asks of the class, as far as a test can see it; run from the project's folder. */
public final class RulesTest {
    private static final Check T = new Check();
    private static final Path SOURCE = Path.of("src/main/java/WheelsWidths.java");
    private static final List<String> FORBIDDEN = List.of("throw", "throws", "try", "catch", "finally", "synchronized", "assert",
        "import", "package", "volatile", "transient", "native", "Object", "Exception", "Thread", "System", "Random", "instanceof");

    public static void main(String[] args) throws IOException {
        face();
        insideClasses();
        words();
        methodsAreShort();
        callsAreNotDeep();
        callsMakeNothing();
        T.finish("RulesTest");
    }

    private static void face() {
        Class<?> face = WheelsWidths.class;
        T.due("public and final", face.getModifiers(), Modifier.PUBLIC | Modifier.FINAL);
        T.due("constructors", face.getDeclaredConstructors().length, 1);
        Constructor<?> made = face.getDeclaredConstructors()[0];
        T.due("the constructor", made.getModifiers() == Modifier.PUBLIC ? made.getParameterCount() : -1, 0);
        Set<String> open = new HashSet<>();
        Set<String> hidden = new HashSet<>();
        for (Method m : face.getDeclaredMethods()) {
            (Modifier.isPublic(m.getModifiers()) ? open : hidden).add(m.getName());
            T.due(m.getName() + " public or private", m.getModifiers() & (Modifier.PUBLIC | Modifier.PRIVATE), m.getModifiers() & ~Modifier.STATIC);
            if (Modifier.isPublic(m.getModifiers())) T.due(m.getName() + " answers int", m.getReturnType() == int.class ? 1 : 0, 1);
        }
        T.due("public methods", open.size(), 39);
        for (Class<?> inside : face.getDeclaredClasses()) {
            for (Method m : inside.getDeclaredMethods()) hidden.add(m.getName());
        }
        hidden.retainAll(open);
        T.due("hidden methods with a public name " + hidden, hidden.size(), 0);
        int constants = 0;
        for (Field f : face.getDeclaredFields()) {
            if (Modifier.isPublic(f.getModifiers())) constants++;
            else T.due(f.getName() + " is private", Modifier.isPrivate(f.getModifiers()) ? 1 : 0, 1);
            if (Modifier.isStatic(f.getModifiers())) T.due(f.getName() + " is final", Modifier.isFinal(f.getModifiers()) ? 1 : 0, 1);
        }
        T.due("constants", constants, 4);
    }

    private static void insideClasses() {
        Class<?>[] inside = WheelsWidths.class.getDeclaredClasses();
        T.due("at most twelve classes", inside.length + 1 <= 12 ? 1 : 0, 1);
        for (Class<?> c : inside) {
            T.due(c.getName() + " is static", Modifier.isStatic(c.getModifiers()) ? 1 : 0, 1);
            int fields = 0;
            for (Field f : c.getDeclaredFields()) if (!Modifier.isStatic(f.getModifiers())) fields++;
            T.due(c.getName() + " has at most twenty fields", fields <= 20 ? 1 : 0, 1);
            for (Method m : c.getDeclaredMethods()) T.due(m.getName() + " parameters", m.getParameterCount() <= 7 ? 1 : 0, 1);
        }
    }

    private static void words() throws IOException {
        String source = Files.readString(SOURCE);
        String code = source.replaceAll("(?s)/\\*.*?\\*/", "").replaceAll("//[^\n]*", "");
        Matcher word = Pattern.compile("[A-Za-z_]\\w*").matcher(code);
        while (word.find()) T.due("the word " + word.group(), FORBIDDEN.contains(word.group()) ? 1 : 0, 0);
        for (String sign : List.of("->", "::", "@", "Exact(")) T.due("the sign " + sign, code.contains(sign) ? 1 : 0, 0);
        for (int i = 0; i < source.length(); i++) {
            if (source.charAt(i) > 126) T.due("a sign above 126", source.charAt(i), 0);
        }
    }

    private static void methodsAreShort() throws IOException {
        int from = 0;
        String end = "";
        for (List<String> lines = Files.readAllLines(SOURCE); from < lines.size(); from++) {
            Matcher head = Pattern.compile("( +)[\\w \\[\\]]+\\(.*\\) \\{").matcher(lines.get(from));
            if (!head.matches() || lines.get(from).matches(" *(if|for|while|switch) .*")) continue;
            end = head.group(1) + "}";
            int many = lines.subList(from, lines.size()).indexOf(end) + 1;
            T.due("some sixty lines at most: " + lines.get(from), many >= 1 && many <= 60 ? 1 : 0, 1);
        }
        T.due("methods were found", end.isEmpty() ? 1 : 0, 0);
    }

    private static void callsAreNotDeep() {
        CallTree calls = new CallTree(WheelsWidths.class);
        for (Method m : WheelsWidths.class.getDeclaredMethods()) {
            List<String> chain = calls.longestFrom("WheelsWidths." + m.getName());
            T.due("at most eight deep: " + chain, chain.size() <= 8 ? 1 : 0, 1);
        }
        T.due("calls were followed", calls.longestFrom("WheelsWidths.where").size() > 3 ? 1 : 0, 1);
    }

    /** All rows are made with the object, so that a run of calls can not fill its room. */
    private static void callsMakeNothing() {
        com.sun.management.ThreadMXBean bean = (com.sun.management.ThreadMXBean) ManagementFactory.getThreadMXBean();
        WheelsWidths x = T.told("yards 20;bog 3;smith 2 1;rut 4 0 5;frost 3;cart plain 0 1 9 0 20 0;cart double 1 2 9 20 1 3;"
            + "cart sledge 0 1 0 5 9 0;cart hired 2 2 9 0 7 1;cart smuggler 0 1 9 8 2 0;");
        allCalls(x);
        long before = bean.getThreadAllocatedBytes(Thread.currentThread().getId());
        for (int i = 0; i < 20; i++) allCalls(x);
        long made = bean.getThreadAllocatedBytes(Thread.currentThread().getId()) - before;
        T.due("bytes made by calls: " + made, made < 5000 ? 1 : 0, 1);
    }

    private static void allCalls(WheelsWidths x) {
        x.feed(0x626F6720333B2020L);
        x.end(3);
        x.keep(0);
        x.dig(1, 0, 3);
        x.fill(4);
        x.shoe(0, 1);
        x.load(0, 2);
        x.freeze(2, true);
        x.where(0, 60);
        x.deepest(60, 1);
        x.order(0);
        x.mend(0);
        x.way(0, 0, 12);
        x.can(0);
        x.shares(0);
        x.track(3, 1);
        x.orders(0);
        x.whose(3);
        x.sheet(0, 1, 40);
        x.lay(0, 1, 1);
        x.read(0, 1, 0, 2);
        x.go(1);
        x.back(0);
        x.text();
    }
}
