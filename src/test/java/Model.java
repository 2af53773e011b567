import java.util.ArrayList;
import java.util.Arrays;
import java.util.HashMap;
import java.util.HashSet;
import java.util.List;
import java.util.Map;
import java.util.PriorityQueue;
import java.util.Set;
import java.util.TreeSet;

/** The document once more, slowly and with the whole Java library, to compare answers with. */
final class Model {
    static final int BAD = -1, STATE = -2, FULL = -3, NONE = -4;
    private static final List<String> KINDS = List.of("plain", "double", "sledge", "hired", "smuggler");

    private static final class Fault extends Exception {
        private static final long serialVersionUID = 1L;
        final int number;
        final int place;

        Fault(int number, int place) {
            this.number = number;
            this.place = place;
        }
    }

    private record Spot(int y, int w) { }

    private static final class State {
        int last = 10;
        Map<Spot, Integer> depth = new HashMap<>();
        Map<Spot, Integer> toll = new HashMap<>();
        Map<Integer, Integer> hill = new HashMap<>();
        Map<Integer, Integer> smith = new HashMap<>();
        Set<Integer> bog = new HashSet<>();
        Set<Integer> frost = new HashSet<>();
        List<int[]> carts = new ArrayList<>();
        Map<Integer, Integer> cost = new HashMap<>();
        List<Spot> tracks = new ArrayList<>();

        State copy() {
            State s = new State();
            s.last = last;
            s.depth.putAll(depth);
            s.toll.putAll(toll);
            s.hill.putAll(hill);
            s.smith.putAll(smith);
            s.bog.addAll(bog);
            s.frost.addAll(frost);
            for (int[] c : carts) s.carts.add(c.clone());
            s.cost.putAll(cost);
            s.tracks.addAll(tracks);
            return s;
        }

        boolean rut(int y, int w) {
            return y >= 0 && y <= last && hill.getOrDefault(y, w) == w;
        }
    }

    /** What a run has come to: behind each hour the yards, depths, tolls, waits, jams. */
    private static final class Course {
        int[][] where = new int[61][];
        int[][] paid = new int[61][];
        int[][] waited = new int[61][];
        int[] jam = new int[61];
        List<Map<Spot, Integer>> depth = new ArrayList<>();
        int[] done;

        boolean all() {
            return Arrays.stream(done).allMatch(d -> d > 0);
        }
    }

    private State s = new State();
    private final State[] images = new State[2];
    private String tape = "";
    private int fault = 0;
    private int torn = 0;
    private final Object[] sheets = new Object[4];

    // ---- the text

    int feed(long v) {
        if (tape.length() > 392) return FULL;
        for (int i = 7; i >= 0; i--) tape += (char) (v >>> 8 * i & 255);
        return tape.length();
    }

    int end(int n) {
        if (n < 0 || n > tape.length()) return BAD;
        int had = tape.length();
        tape = tape.substring(0, n);
        return had;
    }

    private int at;
    private int first;
    private TreeSet<Integer> yards;

    /** The next token, "" at the end. */
    private String token() throws Fault {
        while (at < tape.length() && tape.charAt(at) == ' ') at++;
        first = at;
        if (at == tape.length()) return "";
        String rest = tape.substring(at);
        String t = rest.charAt(0) == ';' ? ";" : rest.replaceFirst("(?s)^([a-z]+|[0-9]+).*$", "$1");
        if (!t.matches(";|[a-z]+|[0-9]{1,2}")) throw new Fault(1, first);
        at += t.length();
        return t;
    }

    private int number(int low, int high) throws Fault {
        String t = token();
        if (!t.matches("[0-9]+")) throw new Fault(2, first);
        int v = Integer.parseInt(t);
        if (v < low || v > high) throw new Fault(3, first);
        return v;
    }

    private int yardNumber() throws Fault {
        int y = number(0, 20);
        yards.add(y);
        return y;
    }

    private void once(boolean is) throws Fault {
        if (is) throw new Fault(4, first);
    }

    private int tellAll(State t) throws Fault {
        Set<String> names = new HashSet<>();
        Set<Spot> ruts = new HashSet<>();
        yards = new TreeSet<>();
        at = 0;
        for (int lines = 0; ; lines++) {
            String name = token();
            if (name.isEmpty()) {
                if (!yards.isEmpty() && yards.last() > t.last) throw new Fault(6, tape.length());
                for (Spot r : ruts) if (!t.rut(r.y, r.w)) throw new Fault(7, tape.length());
                return lines;
            }
            line(name, t, names, ruts);
            names.add(name);
            if (!token().equals(";")) throw new Fault(2, first);
        }
    }

    private void line(String name, State t, Set<String> names, Set<Spot> ruts) throws Fault {
        switch (name) {
            case "yards" -> { once(names.contains(name)); t.last = number(2, 20); }
            case "bog" -> once(!t.bog.add(yardNumber()));
            case "hill" -> { int y = yardNumber(); once(t.hill.containsKey(y)); t.hill.put(y, number(0, 2)); }
            case "smith" -> { int y = yardNumber(); once(t.smith.containsKey(y)); t.smith.put(y, number(0, 9)); }
            case "toll" -> { Spot r = new Spot(yardNumber(), number(0, 2)); t.toll.put(r, number(0, 9)); }
            case "rut" -> { Spot r = new Spot(yardNumber(), number(0, 2)); ruts.add(r); t.depth.put(r, number(0, 99)); }
            case "frost" -> once(!t.frost.add(number(1, 60)));
            case "cost" -> { int p = number(1, 7); once(t.cost.containsKey(p)); t.cost.put(p, number(0, 60)); }
            case "cart" -> {
                if (t.carts.size() == 5) throw new Fault(5, first);
                int kind = KINDS.indexOf(token());
                if (kind < 0) throw new Fault(2, first);
                int w = number(0, 2);
                int load = number(1, 9);
                int axle = number(0, 30);
                int y = yardNumber();
                int goal = yardNumber();
                once(goal == y);
                t.carts.add(new int[] {kind, w, load, axle, y, goal, number(0, 20)});
            }
            default -> throw new Fault(2, first);
        }
    }

    int text() {
        State t = new State();
        try {
            int lines = tellAll(t);
            s = t;
            images[0] = images[1] = null;
            fault = 0;
            return lines;
        } catch (Fault f) {
            fault = f.number;
            return -10 - f.place;
        } finally {
            tape = "";
        }
    }

    int fault() {
        return fault;
    }

    int yard(int y, int what) {
        if (!isYard(y)) return BAD;
        switch (what) {
            case 0: return s.hill.containsKey(y) ? 1 << s.hill.get(y) : 7;
            case 1: return s.bog.contains(y) ? 1 : 0;
            case 2: return s.smith.getOrDefault(y, NONE);
            case 10: case 11: case 12: return s.rut(y, what - 10) ? s.depth.getOrDefault(new Spot(y, what - 10), 0) : NONE;
            case 20: case 21: case 22: return s.toll.getOrDefault(new Spot(y, what - 20), 0);
            default: return BAD;
        }
    }

    int cart(int c, int what) {
        return isCart(c) && what >= 0 && what < 7 ? s.carts.get(c)[what] : BAD;
    }

    int frost(int h) {
        return h < 1 || h > 60 ? BAD : s.frost.contains(h) ? 1 : 0;
    }

    // ---- what is changed

    int dig(int y, int w, int depth) {
        if (!isYard(y) || !isWidth(w) || depth < 0 || depth > 99) return BAD;
        if (!s.rut(y, w)) return STATE;
        Integer was = s.depth.put(new Spot(y, w), depth);
        return was == null ? 0 : was;
    }

    int fill(int y) {
        if (!isYard(y)) return BAD;
        int most = 0;
        for (int w = 0; w < 3; w++) {
            Integer was = s.depth.remove(new Spot(y, w));
            most = Math.max(most, was == null ? 0 : was);
        }
        return most;
    }

    int shoe(int c, int w) {
        if (!isCart(c) || !isWidth(w)) return BAD;
        return s.carts.get(c)[0] == 3 ? STATE : change(c, 1, w);
    }

    int load(int c, int v) {
        return !isCart(c) || v < 1 || v > 9 ? BAD : change(c, 2, v);
    }

    private int change(int c, int what, int v) {
        int was = s.carts.get(c)[what];
        s.carts.get(c)[what] = v;
        return was;
    }

    int freeze(int h, boolean is) {
        if (h < 1 || h > 60) return BAD;
        boolean was = is ? !s.frost.add(h) : s.frost.remove(h);
        return was ? 1 : 0;
    }

    // ---- a run

    private static Course course(State s, List<Integer> order) {
        Course r = new Course();
        int n = s.carts.size();
        r.done = new int[n];
        int[] where = s.carts.stream().mapToInt(c -> c[4]).toArray();
        int[] paid = new int[n];
        int[] waited = new int[n];
        Map<Spot, Integer> depth = new HashMap<>(s.depth);
        for (int h = 0; h <= 60; h++) {
            if (h > 0) {
                for (int c : order) {
                    int[] cart = s.carts.get(c);
                    if (r.done[c] > 0 || h <= cart[6] || cart[0] == 2 && h % 2 == 1) continue;
                    int next = where[c] + Integer.signum(cart[5] - where[c]);
                    Spot spot = new Spot(next, cart[1]);
                    boolean goes = cart[0] == 2 || s.rut(next, cart[1]) && depth.getOrDefault(spot, 0) <= cart[3];
                    for (int o = 0; o < n; o++) {
                        boolean same = s.bog.contains(next) || s.carts.get(o)[1] == cart[1];
                        if (o != c && r.done[o] == 0 && where[o] == next && same) goes = false;
                    }
                    if (!goes) {
                        waited[c]++;
                        r.jam[h] |= 1 << c;
                        continue;
                    }
                    where[c] = next;
                    if (cart[0] != 4) paid[c] += s.toll.getOrDefault(spot, 0);
                    int more = cart[0] == 2 ? 0 : cart[0] == 1 ? 2 * cart[2] : cart[2];
                    if (more > 0) depth.put(spot, Math.min(99, depth.getOrDefault(spot, 0) + more));
                    if (next == cart[5]) r.done[c] = h;
                }
                if (s.frost.contains(h)) depth.replaceAll((k, v) -> Math.max(0, v - 1));
            }
            r.where[h] = where.clone();
            r.paid[h] = paid.clone();
            r.waited[h] = waited.clone();
            r.depth.add(new HashMap<>(depth));
        }
        return r;
    }

    private Course course() {
        return course(s, plainOrder());
    }

    private List<Integer> plainOrder() {
        List<Integer> order = new ArrayList<>();
        for (int c = 0; c < s.carts.size(); c++) order.add(c);
        return order;
    }

    int where(int c, int h) {
        return isCart(c) && isBehind(h) ? course().where[h][c] : BAD;
    }

    int depth(int y, int w, int h) {
        if (!isYard(y) || !isWidth(w) || !isBehind(h)) return BAD;
        return s.rut(y, w) ? course().depth.get(h).getOrDefault(new Spot(y, w), 0) : NONE;
    }

    int paid(int c, int h) {
        return isCart(c) && isBehind(h) ? course().paid[h][c] : BAD;
    }

    int waited(int c, int h) {
        return isCart(c) && isBehind(h) ? course().waited[h][c] : BAD;
    }

    int done(int c) {
        if (!isCart(c)) return BAD;
        return course().done[c] > 0 ? course().done[c] : NONE;
    }

    int jam(int h) {
        return h < 1 || h > 60 ? BAD : course().jam[h];
    }

    int deepest(int h, int what) {
        if (!isBehind(h) || what < 0 || what > 1) return BAD;
        Map<Spot, Integer> depth = course().depth.get(h);
        int[] best = {-1, -1};
        for (int y = 0; y <= s.last; y++) {
            for (int w = 0; w < 3; w++) {
                int d = depth.getOrDefault(new Spot(y, w), 0);
                if (s.rut(y, w) && d > best[0]) best = new int[] {d, 3 * y + w};
            }
        }
        return best[what];
    }

    int go(int h) {
        if (!isBehind(h)) return BAD;
        Course r = course();
        List<int[]> left = new ArrayList<>();
        for (int c = 0; c < s.carts.size(); c++) {
            if (r.done[c] > 0 && r.done[c] <= h) continue;
            int[] cart = s.carts.get(c);
            cart[4] = r.where[h][c];
            cart[6] = 0;
            left.add(cart);
        }
        s.depth = r.depth.get(h);
        s.carts = left;
        return left.size();
    }

    // ---- orders, mending

    private static void orders(List<Integer> ahead, List<Integer> rest, List<List<Integer>> all) {
        if (rest.isEmpty()) all.add(new ArrayList<>(ahead));
        for (int c : rest) {
            List<Integer> less = new ArrayList<>(rest);
            less.remove((Integer) c);
            List<Integer> more = new ArrayList<>(ahead);
            more.add(c);
            orders(more, less, all);
        }
    }

    private List<List<Integer>> allOrders() {
        List<List<Integer>> all = new ArrayList<>();
        orders(List.of(), plainOrder(), all);
        return all;
    }

    int order(int what) {
        int n = s.carts.size();
        if (what != 0 && (what < 10 || what >= 10 + n)) return BAD;
        if (n == 0) return STATE;
        int sum = Integer.MAX_VALUE;
        List<Integer> best = null;
        for (List<Integer> order : allOrders()) {
            Course r = course(s, order);
            int total = Arrays.stream(r.done).sum();
            if (r.all() && total < sum) {
                sum = total;
                best = order;
            }
        }
        if (best == null) return NONE;
        return what == 0 ? sum : best.get(what - 10);
    }

    private boolean allDoneWithout(int... yards) {
        State t = s.copy();
        for (int y : yards) t.depth.keySet().removeIf(r -> r.y == y);
        return course(t, plainOrder()).all();
    }

    int mend(int what) {
        if (what < 0 || what > 2) return BAD;
        if (allDoneWithout()) return what == 0 ? 0 : NONE;
        for (int y = 0; y <= s.last; y++) {
            if (allDoneWithout(y)) return what == 0 ? 1 : what == 1 ? y : NONE;
        }
        for (int y = 0; y <= s.last; y++) {
            for (int z = y + 1; z <= s.last; z++) {
                if (allDoneWithout(y, z)) return what == 0 ? 2 : what == 1 ? y : z;
            }
        }
        return NONE;
    }

    // ---- ways

    private record Way(int y, int w, int money, int hours, List<Integer> acts) { }

    private List<Way> steps(int[] cart, Way from) {
        List<Way> steps = new ArrayList<>();
        for (int act = 0; act < 5; act++) {
            List<Integer> acts = new ArrayList<>(from.acts);
            acts.add(act);
            if (act < 2) {
                int y = act == 0 ? from.y + 1 : from.y - 1;
                Spot r = new Spot(y, from.w);
                boolean open = isYard(y) && (cart[0] == 2 || s.rut(y, from.w) && s.depth.getOrDefault(r, 0) <= cart[3]);
                int toll = cart[0] == 4 ? 0 : s.toll.getOrDefault(r, 0);
                if (open) steps.add(new Way(y, from.w, from.money + toll, from.hours + (cart[0] == 2 ? 2 : 1), acts));
            } else if (act - 2 != from.w && cart[0] != 3 && s.smith.containsKey(from.y)) {
                steps.add(new Way(from.y, act - 2, from.money + s.smith.get(from.y), from.hours + 1, acts));
            }
        }
        return steps;
    }

    private static int compare(Way a, Way b, int by) {
        int money = Integer.compare(a.money, b.money);
        int hours = Integer.compare(a.hours, b.hours);
        int first = by == 0 ? money : hours;
        int second = by == 0 ? hours : money;
        if (first != 0) return first;
        if (second != 0) return second;
        if (a.acts.size() != b.acts.size()) return Integer.compare(a.acts.size(), b.acts.size());
        for (int i = 0; i < a.acts.size(); i++) {
            int c = a.acts.get(i).compareTo(b.acts.get(i));
            if (c != 0) return c;
        }
        return 0;
    }

    int way(int c, int by, int what) {
        if (!isCart(c) || by < 0 || by > 1 || what < 0 || what > 2 && what < 10) return BAD;
        int[] cart = s.carts.get(c);
        PriorityQueue<Way> open = new PriorityQueue<>((a, b) -> compare(a, b, by));
        open.add(new Way(cart[4], cart[1], 0, 0, List.of()));
        Set<Spot> closed = new HashSet<>();
        while (!open.isEmpty()) {
            Way way = open.poll();
            if (way.y == cart[5]) {
                if (what == 0) return way.money;
                if (what == 1) return way.hours;
                if (what == 2) return way.acts.size();
                return what - 10 < way.acts.size() ? way.acts.get(what - 10) : NONE;
            }
            if (closed.add(new Spot(way.y, way.w))) open.addAll(steps(cart, way));
        }
        return NONE;
    }

    int can(int c) {
        if (!isCart(c)) return BAD;
        int[] cart = s.carts.get(c);
        List<Way> open = new ArrayList<>(List.of(new Way(cart[4], cart[1], 0, 0, List.of())));
        Set<Spot> seen = new HashSet<>();
        int yards = 0;
        while (!open.isEmpty()) {
            Way way = open.remove(open.size() - 1);
            if (!seen.add(new Spot(way.y, way.w))) continue;
            yards |= 1 << way.y;
            open.addAll(steps(cart, way));
        }
        return yards;
    }

    // ---- treaties

    int cost(int some) {
        return some < 1 || some > 7 ? BAD : s.cost.getOrDefault(some, 0);
    }

    int price(int some, int v) {
        if (some < 1 || some > 7 || v < 0 || v > 60) return BAD;
        int was = cost(some);
        s.cost.put(some, v);
        return was;
    }

    int firm(int a, int b, int c) {
        int[] pay = {a, b, c};
        for (int p : pay) if (p < 0 || p > 60) return BAD;
        for (int some = 1; some <= 7; some++) {
            int together = 0;
            for (int i = 0; i < 3; i++) if ((some >> i & 1) == 1) together += pay[i];
            if (some == 7 ? together != cost(7) : together > cost(some)) return 0;
        }
        return 1;
    }

    int shares(int what) {
        if (what != 0 && what != 1) return BAD;
        int many = 0;
        for (int a = 0; a <= 60; a++) {
            for (int b = 0; b <= 60; b++) {
                for (int c = 0; c <= 60; c++) {
                    if (firm(a, b, c) == 0) continue;
                    if (what == 1) return 10000 * a + 100 * b + c;
                    many++;
                }
            }
        }
        return what == 0 ? many : NONE;
    }

    // ---- tracks

    int track(int y, int w) {
        if (!isYard(y) || !isWidth(w)) return BAD;
        if (s.tracks.size() == 8) return FULL;
        s.tracks.add(new Spot(y, w));
        return s.tracks.size();
    }

    int forget(int n) {
        int were = s.tracks.size();
        if (n < 0 || n > were) return BAD;
        s.tracks = new ArrayList<>(s.tracks.subList(0, n));
        return were;
    }

    private int lastIn(List<Integer> order, int y) {
        int last = NONE;
        for (int c : order) {
            int[] cart = s.carts.get(c);
            boolean goes = false;
            for (int p = cart[4]; p != cart[5]; ) {
                p += Integer.signum(cart[5] - p);
                goes |= p == y;
            }
            if (goes && cart[0] != 2) last = c;
        }
        return last;
    }

    private List<List<Integer>> fitting() {
        List<List<Integer>> fit = new ArrayList<>();
        for (List<Integer> order : allOrders()) {
            boolean fits = true;
            for (Spot t : s.tracks) {
                int last = lastIn(order, t.y);
                fits &= last >= 0 && s.carts.get(last)[1] == t.w;
            }
            if (fits) fit.add(order);
        }
        return fit;
    }

    int orders(int what) {
        if (what != 0 && (what < 10 || what >= 10 + s.carts.size())) return BAD;
        List<List<Integer>> fit = fitting();
        if (what == 0) return fit.size();
        return fit.isEmpty() ? NONE : fit.get(0).get(what - 10);
    }

    int whose(int y) {
        if (!isYard(y)) return BAD;
        int bits = 0;
        for (List<Integer> order : fitting()) {
            int last = lastIn(order, y);
            if (last >= 0) bits |= 1 << last;
        }
        return bits;
    }

    // ---- images, sheets

    int keep(int k) {
        if (k != 0 && k != 1) return BAD;
        int was = images[k] == null ? 0 : 1;
        images[k] = s.copy();
        return was;
    }

    int back(int k) {
        if (k != 0 && k != 1) return BAD;
        if (images[k] == null) return STATE;
        s = images[k].copy();
        return s.carts.size();
    }

    int sheet(int k, int lane, int n) {
        if (k < 0 || k > 3 || lane < 0 || lane > 2 || n > 40) return BAD;
        try {
            sheets[k] = lane == 0 ? new byte[n] : lane == 1 ? new short[n] : new int[n];
            return 1;
        } catch (NegativeArraySizeException e) {
            return -14;
        }
    }

    int lay(int k, int i, int v) {
        if (k < 0 || k > 3) return BAD;
        if (sheets[k] == null) return -11;
        try {
            if (sheets[k] instanceof byte[] row) row[i] = (byte) v;
            else if (sheets[k] instanceof short[] row) row[i] = (short) v;
            else if (sheets[k] instanceof int[] row) row[i] = v;
            return 1;
        } catch (ArrayIndexOutOfBoundsException e) {
            return -12;
        }
    }

    private static int cell(Object sheet, int lane, int i) {
        return lane == 0 ? ((byte[]) sheet)[i] : lane == 1 ? ((short[]) sheet)[i] : ((int[]) sheet)[i];
    }

    int read(int k, int lane, int f, int n) {
        if (k < 0 || k > 3 || lane < 0 || lane > 2 || n < 0 || n > 8) return BAD;
        List<Spot> before = new ArrayList<>(s.tracks);
        int met = 0;
        int came = 0;
        try {
            for (int i = 0; i < n; i++) {
                int y = cell(sheets[k], lane, f + 2 * i);
                int w = cell(sheets[k], lane, f + 2 * i + 1);
                if (track(y, w) < 0) {
                    s.tracks = before;
                    return -20 - i;
                }
                came++;
            }
        } catch (NullPointerException e) {
            met = 1;
        } catch (ArrayIndexOutOfBoundsException e) {
            met = 2;
        } catch (ClassCastException e) {
            met = 3;
        }
        torn = met;
        return came;
    }

    int torn() {
        return torn;
    }

    int count(int what) {
        switch (what) {
            case 0: return s.last;
            case 1: return s.carts.size();
            case 2: return s.tracks.size();
            case 3: return (images[0] == null ? 0 : 1) + (images[1] == null ? 0 : 1);
            case 4: return tape.length();
            case 5: return sheets[0] == null ? NONE : java.lang.reflect.Array.getLength(sheets[0]);
            default: return BAD;
        }
    }

    private boolean isYard(int y) {
        return y >= 0 && y <= s.last;
    }

    private boolean isCart(int c) {
        return c >= 0 && c < s.carts.size();
    }

    private static boolean isWidth(int w) {
        return w >= 0 && w <= 2;
    }

    private static boolean isBehind(int h) {
        return h >= 0 && h <= 60;
    }
}
