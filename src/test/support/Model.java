import java.util.ArrayDeque;
import java.util.ArrayList;
import java.util.Arrays;
import java.util.Deque;
import java.util.HashMap;
import java.util.HashSet;
import java.util.LinkedHashMap;
import java.util.List;
import java.util.Map;
import java.util.Set;
import java.util.function.ToLongFunction;

/**
 * The document once more, written down plainly with the Java library and no care for room or speed:
 * what StoneRaised answers is held against it. It shares no line with the class.
 */
final class Model {
    static final class Fault extends RuntimeException {
        private static final long serialVersionUID = 1L;
        final int kind;
        final int place;

        Fault(int kind, int place) {
            super("fault " + kind + " at " + place, null, false, false);
            this.kind = kind;
            this.place = place;
        }
    }

    /** A SUM or a TEST (1 where it holds) over facts by their words. */
    interface Term extends ToLongFunction<Map<String, Integer>> {
    }

    record Home(String name, int talk, int warm) {
    }

    record Child(String name, int home, int born) {
    }

    record Wall(String name, int wide, int high) {
    }

    static final class Town {
        final List<Home> homes = new ArrayList<>();
        final List<Child> children = new ArrayList<>();
        final List<Wall> walls = new ArrayList<>();
        final List<Set<Integer>> feuds = new ArrayList<>();
        final Map<Integer, Integer> twins = new HashMap<>();
        Term gains;
        Term may;
        int from = 7;
        int to = 21;
        int weighs = 10;
        int frost = 0;
        int bites = 5;
        int statements;
    }

    static final class State {
        final Town town;
        int year;
        final List<Integer> home = new ArrayList<>();
        final List<Integer> strong = new ArrayList<>();
        /** Walls, columns, stones from below. */
        final List<List<List<Integer>>> walls = new ArrayList<>();
        final Set<Integer> ended = new HashSet<>();
        final List<int[]> kept = new ArrayList<>();
        int fell;
        int built;

        State(Town town) {
            this.town = town;
            for (Child child : town.children) {
                home.add(child.home);
                strong.add(0);
            }
            for (Wall wall : town.walls) {
                List<List<Integer>> columns = new ArrayList<>();
                for (int k = 0; k < wall.wide; k++) {
                    columns.add(new ArrayList<>());
                }
                walls.add(columns);
            }
        }

        State copy() {
            State s = new State(town);
            s.year = year;
            for (int k = 0; k < home.size(); k++) {
                s.home.set(k, home.get(k));
                s.strong.set(k, strong.get(k));
            }
            for (int w = 0; w < walls.size(); w++) {
                for (int c = 0; c < walls.get(w).size(); c++) {
                    s.walls.get(w).get(c).addAll(walls.get(w).get(c));
                }
            }
            s.ended.addAll(ended);
            s.kept.addAll(kept);
            return s;
        }

        int age(int child) {
            return year - town.children.get(child).born;
        }

        boolean done(int child) {
            return age(child) >= town.to;
        }

        boolean raised(int child) {
            return age(child) >= town.from && age(child) < town.to;
        }

        /** Wall, column, course; null when it is not built in. */
        int[] find(int child) {
            for (int w = 0; w < walls.size(); w++) {
                for (int c = 0; c < walls.get(w).size(); c++) {
                    int k = walls.get(w).get(c).indexOf(child);
                    if (k >= 0) {
                        return new int[] {w, c, k};
                    }
                }
            }
            return null;
        }

        boolean shelf(int child) {
            return done(child) && find(child) == null;
        }

        long load(int child) {
            int[] p = find(child);
            return (long) (walls.get(p[0]).get(p[1]).size() - 1 - p[2]) * town.weighs;
        }

        long bears(int child) {
            Integer twin = town.twins.get(child);
            long whole = strong.get(child);
            if (twin == null) {
                return whole;
            }
            int[] other = find(twin);
            return other != null && other[0] == find(child)[0] ? whole : whole / 2;
        }

        boolean holds(int child) {
            return bears(child) >= load(child);
        }

        boolean wallHolds(int wall) {
            return walls.get(wall).stream().allMatch(col -> col.stream().allMatch(this::holds));
        }

        boolean feud(int a, int b) {
            for (int f = 0; f < town.feuds.size(); f++) {
                if (!ended.contains(f) && town.feuds.get(f).equals(Set.of(a, b))) {
                    return true;
                }
            }
            return false;
        }

        Map<String, Integer> facts(int child) {
            Home h = town.homes.get(home.get(child));
            Map<String, Integer> m = new HashMap<>();
            m.put("talk", h.talk);
            m.put("warm", h.warm);
            m.put("age", age(child));
            m.put("strong", strong.get(child));
            m.put("year", year);
            return m;
        }

        void gain(int child) {
            long g = town.gains == null ? town.homes.get(home.get(child)).talk
                : town.gains.applyAsLong(facts(child));
            g = Math.min(99, Math.max(0, g));
            strong.set(child, (int) Math.min(999, strong.get(child) + g));
        }

        List<Integer> takeFrom(int wall, int column, int course) {
            List<Integer> col = walls.get(wall).get(column);
            List<Integer> off = new ArrayList<>(col.subList(course, col.size()));
            col.subList(course, col.size()).clear();
            for (int child : off) {
                kept.add(new int[] {year, child, wall, 0});
            }
            fell += off.size();
            return off;
        }

        Set<Integer> fallAll() {
            Set<Integer> all = new HashSet<>();
            boolean again = true;
            while (again) {
                again = false;
                search:
                for (int w = 0; w < walls.size(); w++) {
                    for (int c = 0; c < walls.get(w).size(); c++) {
                        for (int k = 0; k < walls.get(w).get(c).size(); k++) {
                            if (!holds(walls.get(w).get(c).get(k))) {
                                all.addAll(takeFrom(w, c, k));
                                again = true;
                                break search;
                            }
                        }
                    }
                }
            }
            return all;
        }

        boolean tryBuild(int child) {
            for (int w = 0; w < walls.size(); w++) {
                List<List<Integer>> columns = walls.get(w);
                int least = columns.stream().mapToInt(List::size).min().getAsInt();
                int c = 0;
                while (columns.get(c).size() != least) {
                    c++;
                }
                if (least >= town.walls.get(w).high) {
                    continue;
                }
                Integer left = c > 0 && columns.get(c - 1).size() > least ? columns.get(c - 1).get(least) : null;
                Integer right = c + 1 < columns.size() && columns.get(c + 1).size() > least
                    ? columns.get(c + 1).get(least) : null;
                if (left != null && feud(child, left) || right != null && feud(child, right)) {
                    continue;
                }
                Map<String, Integer> m = facts(child);
                m.put("course", least);
                m.put("left", left == null ? 0 : strong.get(left));
                m.put("under", least == 0 ? 0 : strong.get(columns.get(c).get(least - 1)));
                if (town.may != null && town.may.applyAsLong(m) == 0) {
                    continue;
                }
                columns.get(c).add(child);
                if (wallHolds(w)) {
                    built++;
                    kept.add(new int[] {year, child, w, 1});
                    return true;
                }
                columns.get(c).remove(least);
            }
            return false;
        }

        void year(boolean frost) {
            for (int child = 0; child < home.size(); child++) {
                if (raised(child)) {
                    gain(child);
                }
            }
            year++;
            if (frost) {
                for (int child = 0; child < home.size(); child++) {
                    if (find(child) != null) {
                        strong.set(child, Math.max(0, strong.get(child) - town.bites));
                    }
                }
            }
            Set<Integer> fallen = fallAll();
            for (int child = 0; child < home.size(); child++) {
                if (shelf(child) && !fallen.contains(child)) {
                    tryBuild(child);
                }
            }
        }

        int bits(java.util.function.IntPredicate which) {
            int bits = 0;
            for (int child = 0; child < home.size(); child++) {
                if (which.test(child)) {
                    bits |= 1 << child;
                }
            }
            return bits;
        }

        int builtBits() {
            return bits(c -> find(c) != null);
        }
    }

    // ---- the text

    static final List<String> OWN = List.of("home", "talk", "warm", "child", "of", "born", "twins", "feud",
        "wall", "wide", "high", "gains", "may", "raised", "to", "weighs", "frost", "bites", "age", "strong",
        "year", "course", "left", "under", "if", "or", "and", "not", "all", "min", "max");

    static final class Text {
        final String s;
        int p;
        int depth;
        boolean may;
        Town t = new Town();

        Text(String s) {
            this.s = s;
        }

        static boolean letter(char c) {
            return c >= 'a' && c <= 'z';
        }

        static boolean digit(char c) {
            return c >= '0' && c <= '9';
        }

        static boolean joins(char c) {
            return letter(c) || digit(c);
        }

        void blanks() {
            while (p < s.length() && (s.charAt(p) == ' ' || s.charAt(p) == '\n')) {
                p++;
            }
        }

        /** The token that stands here, not taken; empty at the end. */
        String peek() {
            blanks();
            if (p == s.length()) {
                return "";
            }
            int q = p;
            char c = s.charAt(p);
            if (p > 0 && joins(c) && joins(s.charAt(p - 1))) {
                throw new Fault(1, p);
            }
            if (letter(c)) {
                while (q < s.length() && letter(s.charAt(q))) {
                    q++;
                }
                if (q - p > 6) {
                    throw new Fault(1, p + 6);
                }
            } else if (digit(c)) {
                while (q < s.length() && digit(s.charAt(q))) {
                    q++;
                }
                if (q - p > 4) {
                    throw new Fault(1, p + 4);
                }
            } else {
                return s.substring(p, p + 1);
            }
            return s.substring(p, q);
        }

        Fault here(int kind) {
            blanks();
            return new Fault(kind, p);
        }

        void take() {
            p += peek().length();
        }

        boolean sees(String token) {
            return peek().equals(token);
        }

        boolean accept(String token) {
            if (sees(token)) {
                take();
                return true;
            }
            return false;
        }

        void must(String token) {
            if (!accept(token)) {
                throw here(1);
            }
        }

        int number(int low, int high) {
            String n = peek();
            if (n.isEmpty() || !digit(n.charAt(0))) {
                throw here(1);
            }
            int v = Integer.parseInt(n);
            if (v < low || v > high) {
                throw here(4);
            }
            take();
            return v;
        }

        String anyName() {
            String n = peek();
            if (n.isEmpty() || !letter(n.charAt(0)) || OWN.contains(n)) {
                throw here(1);
            }
            return n;
        }

        String freshName() {
            String n = anyName();
            if (homeBy(n) >= 0 || childBy(n) >= 0 || t.walls.stream().anyMatch(w -> w.name.equals(n))) {
                throw here(2);
            }
            take();
            return n;
        }

        int homeBy(String n) {
            return t.homes.stream().map(Home::name).toList().indexOf(n);
        }

        int childBy(String n) {
            return t.children.stream().map(Child::name).toList().indexOf(n);
        }

        int childName(java.util.function.IntPredicate fits) {
            int c = childBy(anyName());
            if (c < 0 || !fits.test(c)) {
                throw here(3);
            }
            take();
            return c;
        }

        void atMost(int count, int limit) {
            if (count >= limit) {
                throw here(6);
            }
        }

        Town town() {
            for (blanks(); p < s.length(); blanks()) {
                atMost(t.statements, 80);
                statement(peek());
                must(";");
                t.statements++;
            }
            return t;
        }

        void statement(String w) {
            switch (w) {
                case "home" -> {
                    atMost(t.homes.size(), 6);
                    take();
                    String n = freshName();
                    must("talk");
                    int talk = number(0, 9);
                    must("warm");
                    t.homes.add(new Home(n, talk, number(0, 9)));
                }
                case "child" -> {
                    atMost(t.children.size(), 8);
                    take();
                    String n = freshName();
                    must("of");
                    int h = homeBy(anyName());
                    if (h < 0) {
                        throw here(3);
                    }
                    take();
                    must("born");
                    t.children.add(new Child(n, h, number(0, 99)));
                }
                case "twins" -> {
                    take();
                    int a = childName(c -> !t.twins.containsKey(c));
                    int b = childName(c -> c != a && !t.twins.containsKey(c));
                    t.twins.put(a, b);
                    t.twins.put(b, a);
                }
                case "feud" -> {
                    atMost(t.feuds.size(), 10);
                    take();
                    int a = childName(c -> true);
                    int b = childName(c -> c != a && !t.feuds.contains(Set.of(a, c)));
                    t.feuds.add(Set.of(a, b));
                }
                case "wall" -> {
                    atMost(t.walls.size(), 4);
                    take();
                    String n = freshName();
                    must("wide");
                    int wide = number(1, 4);
                    must("high");
                    t.walls.add(new Wall(n, wide, number(1, 4)));
                }
                case "gains" -> {
                    atMost(t.gains == null ? 0 : 1, 1);
                    take();
                    may = false;
                    t.gains = sum();
                }
                case "may" -> {
                    atMost(t.may == null ? 0 : 1, 1);
                    take();
                    may = true;
                    t.may = test();
                }
                case "raised" -> {
                    take();
                    t.from = number(1, 30);
                    must("to");
                    t.to = number(t.from + 1, 30);
                }
                case "weighs" -> {
                    take();
                    t.weighs = number(0, 99);
                }
                case "frost" -> {
                    take();
                    t.frost = number(0, 100);
                }
                case "bites" -> {
                    take();
                    t.bites = number(0, 99);
                }
                default -> throw here(1);
            }
        }

        static long cap(long v) {
            return v > 1000000 ? 1000000 : v < -1000000 ? -1000000 : v;
        }

        Term test() {
            Term a = both();
            while (accept("or")) {
                Term l = a;
                Term r = both();
                a = m -> l.applyAsLong(m) + r.applyAsLong(m) > 0 ? 1 : 0;
            }
            return a;
        }

        Term both() {
            Term a = fact();
            while (accept("and")) {
                Term l = a;
                Term r = fact();
                a = m -> l.applyAsLong(m) * r.applyAsLong(m);
            }
            return a;
        }

        void deeper() {
            if (depth == 7) {
                throw here(5);
            }
            depth++;
            take();
        }

        Term fact() {
            if (sees("not")) {
                deeper();
                Term a = fact();
                depth--;
                return m -> a.applyAsLong(m) == 0 ? 1 : 0;
            }
            if (sees("[")) {
                deeper();
                Term a = test();
                must("]");
                depth--;
                return a;
            }
            if (accept("all")) {
                return m -> 1;
            }
            Term a = sum();
            String sign = peek();
            if (!sign.equals("<") && !sign.equals(">") && !sign.equals("=")) {
                throw here(1);
            }
            take();
            Term b = sum();
            return m -> {
                int c = Long.compare(a.applyAsLong(m), b.applyAsLong(m));
                return c < 0 == sign.equals("<") && c > 0 == sign.equals(">") ? 1 : 0;
            };
        }

        Term sum() {
            Term a = product();
            while (sees("+") || sees("-")) {
                int by = sees("+") ? 1 : -1;
                take();
                Term l = a;
                Term r = product();
                a = m -> cap(l.applyAsLong(m) + by * r.applyAsLong(m));
            }
            return a;
        }

        Term product() {
            Term a = part();
            while (sees("*") || sees("/") || sees("%")) {
                char op = peek().charAt(0);
                take();
                Term l = a;
                Term r = part();
                a = m -> cap(work(op, l.applyAsLong(m), r.applyAsLong(m)));
            }
            return a;
        }

        static long work(char op, long a, long b) {
            if (op == '*') {
                return a * b;
            }
            if (b == 0) {
                return 0;
            }
            long q = (long) Math.floor((double) a / (double) b);
            return op == '/' ? q : a - b * q;
        }

        Term part() {
            String w = peek();
            if (!w.isEmpty() && digit(w.charAt(0))) {
                int v = number(0, 9999);
                return m -> v;
            }
            if (w.equals("(")) {
                deeper();
                Term a = sum();
                must(")");
                depth--;
                return a;
            }
            if (w.equals("min") || w.equals("max") || w.equals("if")) {
                take();
                if (!sees("(")) {
                    throw here(1);
                }
                deeper();
                Term t0 = null;
                if (w.equals("if")) {
                    t0 = test();
                    must(",");
                }
                Term cond = t0;
                Term a = sum();
                must(",");
                Term b = sum();
                must(")");
                depth--;
                return switch (w) {
                    case "min" -> m -> Math.min(a.applyAsLong(m), b.applyAsLong(m));
                    case "max" -> m -> Math.max(a.applyAsLong(m), b.applyAsLong(m));
                    default -> m -> cond.applyAsLong(m) != 0 ? a.applyAsLong(m) : b.applyAsLong(m);
                };
            }
            boolean known = List.of("talk", "warm", "age", "strong", "year").contains(w)
                || may && List.of("course", "left", "under").contains(w);
            if (!known) {
                throw here(1);
            }
            take();
            return m -> m.get(w);
        }
    }

    // ---- the face

    private final List<Integer> tape = new ArrayList<>();
    private Town town = new Town();
    private State now = new State(town);
    private final Deque<State> acts = new ArrayDeque<>();
    private long seed = 1;
    private int faultKind;
    private int faultPlace = -1;
    private final int[] refused = new int[6];
    private int[] image = new int[0];
    private List<Integer> seamHomes = List.of();
    private int seamBorn;

    int refuse(int k) {
        refused[k]++;
        return -1;
    }

    int feed(int a, int b, int c, int d, int e) {
        if (tape.size() + 20 > 1600) {
            return refuse(0);
        }
        for (int n : new int[] {a, b, c, d, e}) {
            for (int k = 3; k >= 0; k--) {
                tape.add(n >>> 8 * k & 255);
            }
        }
        return tape.size();
    }

    int end(int n) {
        if (n < 0 || n > tape.size()) {
            refuse(0);
            return 0;
        }
        tape.subList(n, tape.size()).clear();
        return 1;
    }

    List<Integer> takeTape() {
        List<Integer> all = new ArrayList<>(tape);
        tape.clear();
        return all;
    }

    int town() {
        StringBuilder text = new StringBuilder();
        for (int b : takeTape()) {
            text.append((char) b);
        }
        try {
            Town read = new Text(text.toString()).town();
            faultKind = 0;
            faultPlace = -1;
            town = read;
        } catch (Fault f) {
            faultKind = f.kind;
            faultPlace = f.place;
            return refuse(1);
        }
        now = new State(town);
        acts.clear();
        seamBorn = 0;
        seamHomes = allHomes();
        return town.statements;
    }

    List<Integer> allHomes() {
        List<Integer> all = new ArrayList<>();
        for (int h = 0; h < town.homes.size(); h++) {
            all.add(h);
        }
        return all;
    }

    int fault(int what) {
        return what == 0 ? faultKind : what == 1 ? faultPlace : -1;
    }

    int told() {
        return Math.min(60, now.kept.size());
    }

    int has(int what) {
        return switch (what) {
            case 0 -> town.homes.size();
            case 1 -> town.children.size();
            case 2 -> town.walls.size();
            case 3 -> town.feuds.size();
            case 4 -> town.feuds.size() - now.ended.size();
            case 5 -> now.year;
            case 6 -> Integer.bitCount(now.bits(now::shelf));
            case 7 -> Integer.bitCount(now.builtBits());
            case 8 -> {
                int full = 0;
                for (int w = 0; w < town.walls.size(); w++) {
                    int high = town.walls.get(w).high;
                    full += now.walls.get(w).stream().allMatch(c -> c.size() == high) ? 1 : 0;
                }
                yield full;
            }
            case 9 -> told();
            case 10 -> acts.size();
            case 11 -> (int) seed;
            default -> -1;
        };
    }

    int letter(int kind, int which, int k) {
        List<String> names = switch (kind) {
            case 0 -> town.homes.stream().map(Home::name).toList();
            case 1 -> town.children.stream().map(Child::name).toList();
            case 2 -> town.walls.stream().map(Wall::name).toList();
            default -> List.of();
        };
        if (which < 0 || which >= names.size() || k < 0 || k > 5) {
            return -1;
        }
        return k < names.get(which).length() ? names.get(which).charAt(k) - 96 : 0;
    }

    int home(int home, int what) {
        if (home < 0 || home >= town.homes.size()) {
            return -1;
        }
        return switch (what) {
            case 0 -> town.homes.get(home).talk;
            case 1 -> town.homes.get(home).warm;
            case 2 -> now.bits(c -> now.home.get(c) == home);
            default -> -1;
        };
    }

    boolean noChild(int child) {
        return child < 0 || child >= town.children.size();
    }

    boolean noWall(int wall) {
        return wall < 0 || wall >= town.walls.size();
    }

    int child(int child, int what) {
        if (noChild(child)) {
            return -1;
        }
        return switch (what) {
            case 0 -> now.home.get(child);
            case 1 -> town.children.get(child).born;
            case 2 -> town.twins.getOrDefault(child, -1);
            case 3 -> now.bits(c -> c != child && now.feud(c, child));
            default -> -1;
        };
    }

    int stone(int child, int what) {
        if (noChild(child)) {
            return -1;
        }
        int[] p = now.find(child);
        if (what == 0) {
            return now.strong.get(child);
        }
        if (what == 1) {
            return p != null ? 3 : now.done(child) ? 2 : now.raised(child) ? 1 : 0;
        }
        if (p == null || what < 2 || what > 6) {
            return -1;
        }
        return what < 5 ? p[what - 2] : (int) (what == 5 ? now.load(child) : now.bears(child));
    }

    int wall(int wall, int what) {
        if (noWall(wall)) {
            return -1;
        }
        List<List<Integer>> columns = now.walls.get(wall);
        if (what >= 10 && what - 10 < columns.size()) {
            return columns.get(what - 10).size();
        }
        return switch (what) {
            case 0 -> town.walls.get(wall).wide;
            case 1 -> town.walls.get(wall).high;
            case 2 -> columns.stream().mapToInt(List::size).sum();
            default -> -1;
        };
    }

    int at(int wall, int column, int course) {
        if (noWall(wall) || column < 0 || column >= now.walls.get(wall).size() || course < 0) {
            return -1;
        }
        List<Integer> col = now.walls.get(wall).get(column);
        return course < col.size() ? col.get(course) : -1;
    }

    State ahead(int n) {
        State s = now.copy();
        for (int k = 0; k < n; k++) {
            s.year(false);
        }
        return s;
    }

    int later(int n, int what) {
        if (n < 0 || n > 60 || now.year + n > 999) {
            return -1;
        }
        State s = ahead(n);
        return switch (what) {
            case 0 -> s.builtBits();
            case 1 -> s.bits(s::shelf);
            case 2 -> s.fell;
            case 3 -> s.strong.stream().mapToInt(k -> k).sum();
            default -> -1;
        };
    }

    int built(int child) {
        if (noChild(child)) {
            return -1;
        }
        State s = now.copy();
        for (int n = 0; n <= 60; n++) {
            if (s.find(child) != null) {
                return n;
            }
            if (s.year == 999) {
                return -1;
            }
            s.year(false);
        }
        return -1;
    }

    int down(int child) {
        if (noChild(child) || now.find(child) == null) {
            return -1;
        }
        State s = now.copy();
        int[] p = s.find(child);
        s.takeFrom(p[0], p[1], p[2]);
        s.fallAll();
        return now.builtBits() & s.bits(s::shelf);
    }

    int props(int wall) {
        if (noWall(wall)) {
            return -1;
        }
        int mine = now.bits(c -> now.find(c) != null && now.find(c)[0] == wall);
        int best = mine;
        for (int bits = 255; bits >= 0; bits--) {
            if ((bits & mine) == bits && Integer.bitCount(bits) <= Integer.bitCount(best) && propped(wall, bits)) {
                best = bits;
            }
        }
        return best;
    }

    boolean propped(int wall, int bits) {
        State s = now.copy();
        for (int c = 0; c < s.strong.size(); c++) {
            s.strong.set(c, Math.max(0, s.strong.get(c) - town.bites));
        }
        for (List<Integer> col : s.walls.get(wall)) {
            for (int k = 0; k < col.size(); k++) {
                int above = 0;
                for (int j = k + 1; j < col.size() && (bits >> col.get(j) & 1) == 0; j++) {
                    above++;
                }
                if ((bits >> col.get(k) & 1) == 0 && s.bears(col.get(k)) < (long) above * town.weighs) {
                    return false;
                }
            }
        }
        return true;
    }

    int strongest(int child, int what) {
        if (noChild(child) || now.done(child) || what < 0 || what > 1) {
            return -1;
        }
        int best = -1;
        int most = -1;
        for (int h = 0; h < town.homes.size(); h++) {
            State s = now.copy();
            s.home.set(child, h);
            while (!s.done(child)) {
                s.year(false);
            }
            if (s.strong.get(child) > most) {
                most = s.strong.get(child);
                best = h;
            }
        }
        return what == 0 ? best : most;
    }

    private int orderMost;
    private List<Integer> orderRow;

    int order(int k) {
        List<Integer> shelf = new ArrayList<>();
        for (int c = 0; c < town.children.size(); c++) {
            if (now.shelf(c)) {
                shelf.add(c);
            }
        }
        if (shelf.size() > 6) {
            return -1;
        }
        orderMost = -1;
        permute(new ArrayList<>(), shelf);
        if (k == -1) {
            return orderMost;
        }
        return k >= 0 && k < shelf.size() ? orderRow.get(k) : -1;
    }

    void permute(List<Integer> row, List<Integer> left) {
        if (left.isEmpty()) {
            State s = now.copy();
            row.forEach(s::tryBuild);
            if (s.built > orderMost) {
                orderMost = s.built;
                orderRow = List.copyOf(row);
            }
        }
        for (int c : left) {
            List<Integer> more = new ArrayList<>(row);
            more.add(c);
            List<Integer> rest = new ArrayList<>(left);
            rest.remove((Integer) c);
            permute(more, rest);
        }
    }

    int reconcile(int n, int what) {
        if (n < 1 || n > 40 || now.year + n > 999 || what < 0 || what > 1) {
            return -1;
        }
        int plain = Integer.bitCount(ahead(n).builtBits());
        Map<Integer, Integer> more = new LinkedHashMap<>();
        for (int f = 0; f < town.feuds.size(); f++) {
            State s = now.copy();
            s.ended.add(f);
            for (int k = 0; k < n; k++) {
                s.year(false);
            }
            more.put(f, Integer.bitCount(s.builtBits()) - plain);
        }
        int top = more.values().stream().mapToInt(v -> v).max().orElse(0);
        if (top <= 0) {
            return -1;
        }
        return what == 1 ? top : more.entrySet().stream().filter(e -> e.getValue() == top).findFirst().get().getKey();
    }

    int[] growth(int home, int born) {
        Town t = new Town();
        t.homes.addAll(town.homes);
        t.children.add(new Child("x", home, born));
        t.gains = town.gains;
        t.from = town.from;
        t.to = town.to;
        State s = new State(t);
        int[] row = new int[t.to - t.from + 1];
        while (!s.done(0)) {
            s.year(false);
            if (s.age(0) > t.from) {
                row[s.age(0) - t.from] = s.strong.get(0);
            }
        }
        return row;
    }

    int seams(int born) {
        List<Integer> b = takeTape();
        if (b.isEmpty() || b.size() % 3 != 0 || b.size() > 48 || born < 0 || born > 99) {
            return refuse(5);
        }
        for (int k = 0; k < b.size(); k += 3) {
            if (b.get(k) == 0 || b.get(k) > town.to - town.from) {
                return refuse(5);
            }
        }
        List<Integer> fit = new ArrayList<>();
        for (int h : allHomes()) {
            int[] row = growth(h, born);
            boolean ok = true;
            for (int k = 0; k < b.size(); k += 3) {
                ok &= row[b.get(k)] == b.get(k + 1) * 256 + b.get(k + 2);
            }
            if (ok) {
                fit.add(h);
            }
        }
        seamHomes = fit;
        seamBorn = born;
        return fit.size();
    }

    int homes(int what) {
        if (what == 0) {
            return seamHomes.stream().mapToInt(h -> 1 << h).sum();
        }
        if (what != 1 || seamHomes.isEmpty()) {
            return -1;
        }
        List<int[]> rows = seamHomes.stream().map(h -> growth(h, seamBorn)).toList();
        int best = -1;
        int least = 99;
        for (int k = 1; k <= town.to - town.from; k++) {
            Map<Integer, Integer> groups = new HashMap<>();
            for (int[] row : rows) {
                groups.merge(row[k], 1, Integer::sum);
            }
            int worst = groups.values().stream().mapToInt(v -> v).max().getAsInt();
            if (worst < least) {
                least = worst;
                best = k;
            }
        }
        return best;
    }

    int pulling(int wall) {
        return noWall(wall) ? -1 : wins(now, wall) ? 1 : 0;
    }

    boolean wins(State s, int wall) {
        for (int c = 0; c < s.walls.get(wall).size(); c++) {
            State t = s.copy();
            List<Integer> col = t.walls.get(wall).get(c);
            if (col.isEmpty()) {
                continue;
            }
            col.remove(col.size() - 1);
            if (t.wallHolds(wall) && !wins(t, wall)) {
                return true;
            }
        }
        return false;
    }

    boolean cantPass(int n) {
        return n < 1 || n > 100 || now.year + n > 999;
    }

    void act() {
        acts.push(now.copy());
        if (acts.size() > 20) {
            acts.removeLast();
        }
    }

    int years(int n) {
        if (cantPass(n)) {
            return refuse(2);
        }
        act();
        now.built = 0;
        for (int k = 0; k < n; k++) {
            now.year(false);
        }
        return now.built;
    }

    int chance(int n) {
        if (cantPass(n)) {
            return refuse(2);
        }
        act();
        int frosts = 0;
        for (int k = 0; k < n; k++) {
            seed = Math.floorMod(1103515245L * seed + 12345L, 1L << 31);
            boolean frost = seed / 64 % 100 < town.frost;
            frosts += frost ? 1 : 0;
            now.year(frost);
        }
        return frosts;
    }

    int refuseAct() {
        refuse(3);
        return 0;
    }

    int go(int child, int home) {
        if (noChild(child) || home < 0 || home >= town.homes.size() || now.home.get(child) == home) {
            return refuseAct();
        }
        act();
        now.home.set(child, home);
        return 1;
    }

    int pull(int child) {
        if (noChild(child) || now.find(child) == null) {
            return refuse(3);
        }
        int down = Integer.bitCount(down(child));
        act();
        int[] p = now.find(child);
        now.takeFrom(p[0], p[1], p[2]);
        now.fallAll();
        return down;
    }

    int peace(int feud) {
        if (feud < 0 || feud >= town.feuds.size() || now.ended.contains(feud)) {
            return refuseAct();
        }
        act();
        now.ended.add(feud);
        return 1;
    }

    int undo() {
        if (acts.isEmpty()) {
            refuse(4);
            return 0;
        }
        now = acts.pop();
        return 1;
    }

    int seed(int s) {
        if (s < 0) {
            refuse(5);
            return 0;
        }
        seed = s;
        return 1;
    }

    int kept(int k, int what) {
        if (k < 0 || k >= told() || what < 0 || what > 3) {
            return -1;
        }
        return now.kept.get(now.kept.size() - told() + k)[what];
    }

    static int sum(List<Integer> bytes) {
        int c = 167;
        for (int b : bytes) {
            c = (5 * c + b) % 251;
        }
        return c;
    }

    int image() {
        List<Integer> b = new ArrayList<>(List.of(now.year >> 8, now.year & 255));
        for (int c = 0; c < town.children.size(); c++) {
            int[] p = now.find(c);
            int s = now.strong.get(c);
            b.addAll(List.of(now.home.get(c), s >> 8, s & 255));
            b.addAll(p == null ? List.of(0, 0, 0) : List.of(p[0] + 1, p[1], p[2]));
        }
        for (int f = 0; f < town.feuds.size(); f++) {
            b.add(now.ended.contains(f) ? 1 : 0);
        }
        b.add(sum(b));
        image = b.stream().mapToInt(k -> k).toArray();
        return image.length;
    }

    int octet(int k) {
        return k >= 0 && k < image.length ? image[k] : -1;
    }

    int on() {
        State s = readImage(takeTape());
        if (s == null) {
            refuse(5);
            return 0;
        }
        now = s;
        acts.clear();
        return 1;
    }

    State readImage(List<Integer> b) {
        int children = town.children.size();
        if (b.size() != 3 + 6 * children + town.feuds.size()) {
            return null;
        }
        if (sum(b.subList(0, b.size() - 1)) != b.get(b.size() - 1)) {
            return null;
        }
        State s = new State(town);
        s.year = b.get(0) * 256 + b.get(1);
        if (s.year > 999) {
            return null;
        }
        Map<List<Integer>, Integer> places = new HashMap<>();
        for (int c = 0; c < children; c++) {
            List<Integer> r = b.subList(2 + 6 * c, 8 + 6 * c);
            int strong = r.get(1) * 256 + r.get(2);
            if (r.get(0) >= town.homes.size() || strong > 999) {
                return null;
            }
            s.home.set(c, r.get(0));
            s.strong.set(c, strong);
            if (r.get(3) == 0) {
                if (r.get(4) + r.get(5) != 0) {
                    return null;
                }
                continue;
            }
            int w = r.get(3) - 1;
            if (w >= town.walls.size() || r.get(4) >= town.walls.get(w).wide || r.get(5) >= town.walls.get(w).high
                || !s.done(c) || places.put(List.of(w, r.get(4), r.get(5)), c) != null) {
                return null;
            }
        }
        for (int w = 0; w < town.walls.size(); w++) {
            for (int c = 0; c < town.walls.get(w).wide; c++) {
                for (int k = 0; places.containsKey(List.of(w, c, k)); k++) {
                    s.walls.get(w).get(c).add(places.remove(List.of(w, c, k)));
                }
            }
        }
        if (!places.isEmpty()) {
            return null;
        }
        for (int f = 0; f < town.feuds.size(); f++) {
            int v = b.get(2 + 6 * children + f);
            if (v > 1) {
                return null;
            }
            if (v == 1) {
                s.ended.add(f);
            }
        }
        return s;
    }

    int status(int what) {
        return what >= 0 && what < 6 ? refused[what] : -1;
    }

    int childCount() {
        return town.children.size();
    }

    @Override
    public String toString() {
        return "year " + now.year + " " + now.walls + " " + now.strong + " " + Arrays.toString(refused);
    }
}
