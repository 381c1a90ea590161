import java.util.ArrayList;
import java.util.Collections;
import java.util.List;
import java.util.Random;

/** Makes up texts of towns: good ones, and such with a fault put in. */
final class Towns {
    private final Random random;

    Towns(Random random) {
        this.random = random;
    }

    int below(int n) {
        return random.nextInt(n);
    }

    <T> T any(List<T> of) {
        return of.get(below(of.size()));
    }

    private String gap() {
        return below(12) == 0 ? any(List.of("  ", "\n", " \n ")) : " ";
    }

    /** A blank where one likes. */
    private String maybe() {
        return below(8) == 0 ? gap() : "";
    }

    String text() {
        List<String> lines = new ArrayList<>();
        int homes = 1 + below(6);
        int children = below(5) == 0 ? below(9) : 3 + below(6);
        int walls = below(8) == 0 ? 0 : 1 + below(below(3) == 0 ? 4 : 2);
        List<String> names = new ArrayList<>();
        for (int k = 0; k < homes; k++) {
            lines.add("home h" + letters(k, names) + " talk " + below(10) + " warm " + below(10));
        }
        int homesTill = names.size();
        int spread = any(List.of(1, 2, 4, 12, 100));
        for (int k = 0; k < children; k++) {
            lines.add("child c" + letters(k, names) + " of h" + names.get(below(homesTill)) + " born " + below(spread));
        }
        List<String> rest = new ArrayList<>();
        List<Integer> row = new ArrayList<>();
        for (int k = 0; k < children; k++) {
            row.add(k);
        }
        Collections.shuffle(row, random);
        for (int k = 0; k + 1 < children && below(3) != 0; k += 2) {
            rest.add("twins " + child(names, homesTill, row.get(k)) + gap() + child(names, homesTill, row.get(k + 1)));
        }
        List<String> pairs = new ArrayList<>();
        for (int a = 0; a < children; a++) {
            for (int b = 0; b < children; b++) {
                if (a < b) {
                    boolean turned = random.nextBoolean();
                    pairs.add("feud " + child(names, homesTill, turned ? b : a) + " " + child(names, homesTill, turned ? a : b));
                }
            }
        }
        Collections.shuffle(pairs, random);
        int feuds = Math.min(pairs.size(), below(11));
        rest.addAll(pairs.subList(0, feuds));
        for (int k = 0; k < walls; k++) {
            rest.add("wall w" + letters(k, new ArrayList<>()) + " wide " + (1 + below(4)) + " high " + (1 + below(4)));
        }
        if (below(4) != 0) {
            rest.add("gains " + sum(3, false));
        }
        if (below(2) != 0) {
            rest.add("may " + (below(2) == 0 ? "strong>" + below(20) + " or " : "") + test(3));
        }
        if (below(6) != 0) {
            int from = 1 + below(5);
            rest.add("raised " + from + " to " + (from + 1 + below(5)));
        }
        if (below(6) != 0) {
            rest.add("weighs " + any(List.of(0, 1, 3, 5, 8, 12, 20, 40, 99)));
        }
        if (below(6) != 0) {
            rest.add("bites " + any(List.of(0, 1, 2, 3, 5, 9, 20)));
        }
        if (below(6) != 0) {
            rest.add("frost " + any(List.of(0, 5, 20, 30, 50, 70, 100)));
        }
        Collections.shuffle(rest, random);
        lines.addAll(rest);
        StringBuilder all = new StringBuilder();
        for (String line : lines) {
            all.append(maybe()).append(line.replace(" ", gap())).append(maybe()).append(';');
        }
        return all.append(maybe()).toString();
    }

    private static String child(List<String> names, int homes, int k) {
        return "c" + names.get(homes + k);
    }

    private String letters(int k, List<String> names) {
        StringBuilder name = new StringBuilder();
        name.append((char) ('a' + k));
        for (int n = below(3); n > 0; n--) {
            name.append((char) ('a' + below(26)));
        }
        names.add(name.toString());
        return name.toString();
    }

    private String sign() {
        return maybe() + any(List.of("+", "-", "*", "/", "%")) + maybe();
    }

    String sum(int depth, boolean may) {
        StringBuilder s = new StringBuilder(part(depth, may));
        for (int n = below(3); n > 0; n--) {
            s.append(sign()).append(part(depth, may));
        }
        return s.toString();
    }

    private String part(int depth, boolean may) {
        int which = below(depth > 0 ? 10 : 5);
        if (which < 2) {
            return String.valueOf(below(10) == 0 ? below(10000) : below(12));
        }
        if (which < 6) {
            return any(may ? List.of("talk", "warm", "age", "strong", "year", "course", "left", "under")
                : List.of("talk", "talk", "warm", "warm", "age", "strong", "year"));
        }
        if (which < 7) {
            return "(" + maybe() + sum(depth - 1, may) + ")";
        }
        if (which < 9) {
            return any(List.of("min", "max")) + maybe() + "(" + sum(depth - 1, may) + "," + sum(depth - 1, may) + ")";
        }
        return "if(" + test(depth - 1, may) + "," + maybe() + sum(depth - 1, may) + "," + sum(depth - 1, may) + ")";
    }

    String test(int depth) {
        return test(depth, true);
    }

    private String test(int depth, boolean may) {
        StringBuilder s = new StringBuilder(fact(depth, may));
        for (int n = below(3); n > 0; n--) {
            s.append(gap()).append(any(List.of("and", "or"))).append(gap()).append(fact(depth, may));
        }
        return s.toString();
    }

    private String fact(int depth, boolean may) {
        int which = below(depth > 0 ? 8 : 5);
        if (which == 0) {
            return "all";
        }
        if (which < 5) {
            return sum(Math.max(0, depth - 1), may) + maybe() + any(List.of("<", ">", "=")) + sum(Math.max(0, depth - 1), may);
        }
        return which == 5 ? "not " + fact(depth - 1, may) : "[" + test(depth - 1, may) + "]";
    }

    /** A good text with some bytes or words changed, left out, put in or said again. */
    String spoilt() {
        StringBuilder s = new StringBuilder(text());
        for (int n = 1 + below(2); n > 0 && s.length() > 0; n--) {
            int k = below(s.length());
            switch (below(12)) {
                case 0 -> s.deleteCharAt(k);
                case 1 -> s.insert(k, any(List.of(" ", ";", "(", ")", "[", "a", "7", ",", "not ", "\t", "A", "\u00ff")));
                case 2 -> s.setCharAt(k, (char) (32 + below(96)));
                case 3 -> s.setLength(k);
                case 4 -> swapWord(s, k);
                case 5 -> sayAgain(s);
                case 6 -> s.insert(k, s.substring(k, Math.min(s.length(), k + below(9))));
                case 7 -> s.append(any(List.of("gains 1;", "may all;", "home zz talk 1 warm 1;", "weighs 7;", "twins ca cb;")));
                case 8 -> s.insert(k, any(List.of("abcdefgh", "12345", "talk1234567", "1strongly", "not1", "999")));
                case 9 -> s.delete(k, Math.min(s.length(), k + 1 + below(25)));
                case 10 -> manyLines(s);
                default -> s.insert(k, "(".repeat(1 + below(9)));
            }
        }
        return s.length() > 1600 ? s.substring(0, 1600) : s.toString();
    }

    /** As many lines as there may be, or one less or more, and something behind them. */
    private void manyLines(StringBuilder s) {
        s.setLength(0);
        s.append("bites 1;".repeat(79 + below(3)));
        s.append(maybe()).append(any(List.of("", "frost 5;", "abcdefgh", "12345", ";", "bites", "\u0000", "home1")));
    }

    private void swapWord(StringBuilder s, int k) {
        int end = k;
        while (end < s.length() && s.charAt(end) >= '0' && s.charAt(end) != ';') {
            end++;
        }
        s.replace(k, end, any(List.of("home", "of", "10", "100", "31", "0", "x", "ha", "ca", "cb", "talk", "course", "if", "all")));
    }

    private void sayAgain(StringBuilder s) {
        String[] lines = s.toString().split(";");
        if (lines.length > 0) {
            String line = lines[below(lines.length)];
            for (int n = 1 + below(4); n > 0; n--) {
                s.append(line).append(';');
            }
        }
    }
}
