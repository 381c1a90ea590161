import java.util.LinkedHashMap;
import java.util.Map;
import java.util.function.Consumer;

/** Towns that are set into a state, and all that can be asked of one. */
final class Scene {
    static final String HOME = "home hut talk 5 warm 0;";
    static final String TOWN = "home h talk 9 warm 0;home g talk 4 warm 2;child a of h born 0;child b of h born 0;"
        + "child c of g born 1;twins a c;feud a c;feud b c;wall w wide 2 high 2;wall v wide 1 high 1;"
        + "gains talk+warm;may year>0;raised 1 to 3;weighs 4;bites 1;frost 50;";
    /** What lies on the tape of a lively object. */
    static final String LEFT = "home zulu talk 8 warm 7;";

    private Scene() {
    }

    /** Children a, b, c.. of the hut, all born in 0. */
    static String children(int n) {
        StringBuilder text = new StringBuilder();
        for (int k = 0; k < n; k++) {
            text.append("child ").append((char) ('a' + k)).append(" of hut born 0;");
        }
        return text.toString();
    }

    /** A town set into a year by an image, all in the first home: of each stone as lies() or off() tell. */
    static StoneRaised set(String text, int year, int[]... stones) {
        StoneRaised x = Check.with(text);
        int feuds = x.has(3);
        int[] row = new int[2 + 6 * stones.length + feuds];
        row[0] = year / 256;
        row[1] = year % 256;
        for (int k = 0; k < stones.length; k++) {
            row[2 + 6 * k + 1] = stones[k][0] / 256;
            row[2 + 6 * k + 2] = stones[k][0] % 256;
            System.arraycopy(stones[k], 1, row, 2 + 6 * k + 3, 3);
        }
        Check.due("set " + text, true, Check.on(x, Check.summed(row)));
        return x;
    }

    static int[] lies(int strong, int wall, int column, int course) {
        return new int[] {strong, wall + 1, column, course};
    }

    static int[] off(int strong) {
        return new int[] {strong, 0, 0, 0};
    }

    /** An object with something of everything: kept, acts, seams, a fault, an image, bytes on the tape. */
    static StoneRaised lively() {
        StoneRaised x = Check.with(TOWN);
        x.end(1);
        x.years(0);
        x.pull(8);
        x.seed(7);
        x.years(3);
        x.chance(2);
        x.go(2, 0);
        x.pull(0);
        x.peace(1);
        x.years(1);
        x.undo();
        Check.feed(x, Check.bytes(1, 0, 9));
        x.seams(0);
        Check.town(x, "home x");
        x.image();
        x.go(1, 1);
        Check.feed(x, LEFT.getBytes(java.nio.charset.StandardCharsets.ISO_8859_1));
        return x;
    }

    /**
     * A call that is refused, made on a lively object, leaves all as it is but for status(kind), and for
     * the tape, where that goes.
     */
    static void refused(Says says, String call, int kind, boolean tapeGoes, Consumer<StoneRaised> made) {
        StoneRaised without = lively();
        if (tapeGoes) {
            without.end(0);
        }
        StoneRaised with = lively();
        made.accept(with);
        Map<String, Integer> want = all(without);
        want.merge("status(" + kind + ")", 1, Integer::sum);
        alike(says, call, want, all(with));
    }

    static void alike(Says says, String call, Map<String, Integer> want, Map<String, Integer> got) {
        says.due(call + ": as much can be asked", want.size(), got.size());
        for (String name : want.keySet()) {
            says.due(call + ", then " + name, want.get(name), got.getOrDefault(name, Integer.MIN_VALUE));
        }
    }

    static void refused(Says says, String call, int kind, Consumer<StoneRaised> made) {
        refused(says, call, kind, false, made);
    }

    /** All that can be asked, in some 300 calls: it uses the object up. */
    static Map<String, Integer> all(StoneRaised x) {
        Map<String, Integer> row = new LinkedHashMap<>();
        state(row, x);
        for (int what = 0; what < 6; what++) {
            row.put("status(" + what + ")", x.status(what));
        }
        row.put("fault(0)", x.fault(0));
        row.put("fault(1)", x.fault(1));
        row.put("homes(0)", x.homes(0));
        row.put("homes(1)", x.homes(1));
        row.put("order(-1)", x.order(-1));
        row.put("props(0)", x.props(0));
        for (int what = 0; what < 4; what++) {
            row.put("later(2, " + what + ")", x.later(2, what));
        }
        for (int k = 0; k < 30; k++) {
            row.put("octet(" + k + ")", x.octet(k));
        }
        for (int n = 1; n <= 3; n++) {
            row.put("undo() " + n, x.undo() ? 1 : 0);
            row.put("has(5) undone " + n, x.has(5));
            row.put("has(9) undone " + n, x.has(9));
            row.put("has(10) undone " + n, x.has(10));
        }
        int size = 0;
        while (size < 30 && !x.end(30 - size)) {
            size++;
        }
        row.put("the tape's length", 30 - size);
        row.put("town()", x.town());
        row.put("talk of what was on the tape", x.home(0, 0));
        return row;
    }

    private static void state(Map<String, Integer> row, StoneRaised x) {
        for (int what = 0; what < 12; what++) {
            row.put("has(" + what + ")", x.has(what));
        }
        for (int which = 0; which < 3; which++) {
            for (int what = 0; what < 7; what++) {
                String end = "(" + which + ", " + what + ")";
                row.put("home" + end, x.home(which, what));
                row.put("child" + end, x.child(which, what));
                row.put("stone" + end, x.stone(which, what));
                row.put("wall" + end, x.wall(which, what > 2 ? what + 7 : what));
            }
            row.put("letter of " + which, x.letter(which, 0, 0));
        }
        for (int k = 0; k < 10; k++) {
            for (int what = 0; what < 4; what++) {
                row.put("kept(" + k + ", " + what + ")", x.kept(k, what));
            }
        }
    }
}
