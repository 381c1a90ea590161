import java.nio.charset.StandardCharsets;
import java.util.ArrayList;
import java.util.List;
import java.util.Random;

/** Runs of calls made up by a fixed seed, each answer held against the plain model's. */
public final class ModelTest {
    private static int wrong;
    private static long asked;
    private static final int[] seen = new int[64];

    private final Random random;
    private final Towns towns;
    private final StoneRaised x = new StoneRaised();
    private final Model m = new Model();
    private final List<String> log = new ArrayList<>();
    private int calls;
    private final int run;

    private ModelTest(int run) {
        this.run = run;
        random = new Random(run * 7919L + 5);
        towns = new Towns(random);
    }

    public static void main(String[] args) {
        int from = args.length > 0 ? Integer.parseInt(args[0]) : 0;
        int till = args.length > 1 ? Integer.parseInt(args[1]) : 400;
        for (int run = from; run < till && wrong < 5; run++) {
            new ModelTest(run).go();
        }
        if (args.length > 2) {
            System.out.println(java.util.Arrays.toString(seen));
        }
        System.out.println(wrong == 0 ? asked + " answers are as due" : wrong + " runs have wrong answers");
        if (wrong != 0) {
            System.exit(1);
        }
    }

    private static int one(boolean b) {
        return b ? 1 : 0;
    }

    private boolean bad;

    private int same(String call, int got, int want) {
        calls++;
        asked++;
        log.add(call + " = " + got);
        if (got != want && !bad) {
            bad = true;
            wrong++;
            System.out.println("run " + run + ": " + call + " answered " + got + ", due is " + want + "; " + m);
            for (String line : log.subList(Math.max(0, log.size() - 12), log.size())) {
                System.out.println("   " + line);
            }
            System.out.println("   " + lastText);
        }
        return got;
    }

    private String lastText = "";

    private int below(int n) {
        return random.nextInt(n);
    }

    private void feed(byte[] bytes) {
        for (int k = 0; k < bytes.length; k += 20) {
            int[] v = new int[5];
            for (int n = 0; n < 20; n++) {
                v[n / 4] = v[n / 4] << 8 | (k + n < bytes.length ? bytes[k + n] & 255 : below(256));
            }
            same("feed", x.feed(v[0], v[1], v[2], v[3], v[4]), m.feed(v[0], v[1], v[2], v[3], v[4]));
        }
        same("end " + bytes.length, one(x.end(bytes.length)), m.end(bytes.length));
    }

    private void tellTown(String text) {
        lastText = text;
        feed(text.getBytes(StandardCharsets.ISO_8859_1));
        int count = same("town", x.town(), m.town());
        seen[count < 0 ? 1 : 0]++;
        same("fault 0", x.fault(0), m.fault(0));
        seen[2 + x.fault(0)]++;
        same("fault 1", x.fault(1), m.fault(1));
    }

    private void go() {
        if (run % 4 == 0) {
            for (int k = 0; k < 6 && calls < 380; k++) {
                tellTown(towns.spoilt());
                asks(below(6));
            }
        }
        tellTown(towns.text());
        while (calls < 480 && !bad) {
            int which = below(40);
            if (which == 0) {
                tellTown(below(3) == 0 ? towns.spoilt() : towns.text());
            } else if (which < 3) {
                images();
            } else if (which == 39) {
                scatter();
                asks(12);
            } else if (which < 5) {
                tellSeams();
            } else if (which < 20) {
                act();
            } else {
                asks(1 + below(4));
            }
        }
        all();
    }

    private void act() {
        int child = below(9) - below(2);
        switch (below(12)) {
            case 0, 1, 2 -> {
                int n = below(15) == 0 ? below(104) - 2 : 1 + below(4);
                seen[10] += Math.max(0, same("years " + n, x.years(n), m.years(n)));
            }
            case 3, 4, 5 -> {
                int n = below(15) == 0 ? below(104) - 2 : 1 + below(4);
                seen[11] += Math.max(0, same("chance " + n, x.chance(n), m.chance(n)));
            }
            case 6 -> {
                int home = below(7) - below(2);
                same("go " + child + " " + home, one(x.go(child, home)), m.go(child, home));
            }
            case 7 -> {
                int down = same("pull " + child, x.pull(child), m.pull(child));
                seen[12] += down > 0 ? 1 : 0;
                seen[13] += down > 1 ? 1 : 0;
            }
            case 8 -> {
                int feud = below(11) - below(2);
                same("peace " + feud, one(x.peace(feud)), m.peace(feud));
            }
            case 9, 10 -> same("undo", one(x.undo()), m.undo());
            default -> {
                int seed = below(4) == 0 ? random.nextInt() : below(1000);
                same("seed " + seed, one(x.seed(seed)), m.seed(seed));
            }
        }
    }

    private void images() {
        int size = same("image", x.image(), m.image());
        byte[] row = new byte[size];
        for (int k = -1; k <= size; k++) {
            int octet = x.octet(k);
            if (octet != m.octet(k)) {
                same("octet " + k, octet, m.octet(k));
            }
            if (k >= 0 && k < size) {
                row[k] = (byte) octet;
            }
        }
        if (below(2) == 0) {
            return;
        }
        for (int n = below(4); n > 0; n--) {
            int k = below(size - 1);
            row[k] = (byte) (below(3) == 0 ? below(256) : below(4));
            if (k < 2 && below(3) != 0) {
                row[0] = 0;
                row[1] = (byte) (below(60));
            }
        }
        if (below(10) != 0) {
            int c = 167;
            for (int k = 0; k < size - 1; k++) {
                c = (5 * c + (row[k] & 255)) % 251;
            }
            row[size - 1] = (byte) c;
        }
        feed(below(20) == 0 ? java.util.Arrays.copyOf(row, size + 1 - 2 * below(2)) : row);
        int on = same("on", one(x.on()), m.on());
        seen[14 + on]++;
    }

    /** An image with stones here and there, so that walls come about that years seldom make. */
    private void scatter() {
        int children = m.has(1);
        int feuds = m.has(3);
        int homes = Math.max(1, m.has(0));
        int walls = m.has(2);
        byte[] row = new byte[3 + 6 * children + feuds];
        int year = below(5) == 0 ? below(1000) : 30 + below(100);
        row[0] = (byte) (year >> 8);
        row[1] = (byte) year;
        int[][] heights = new int[4][4];
        int most = 1 + below(below(3) == 0 ? 200 : 40);
        int few = 1 + below(4);
        for (int c = 0; c < children; c++) {
            int at = 2 + 6 * c;
            row[at] = (byte) below(homes);
            row[at + 2] = (byte) below(most);
            int wall = walls > 0 ? below(walls) : 0;
            int column = walls > 0 ? below(Math.min(few, m.wall(wall, 0))) : 0;
            boolean free = walls > 0 && heights[wall][column] < m.wall(wall, 1);
            boolean done = year - m.child(c, 1) >= 30;
            if (free && done && below(4) != 0) {
                row[at + 3] = (byte) (wall + 1);
                row[at + 4] = (byte) column;
                row[at + 5] = (byte) heights[wall][column]++;
            }
        }
        for (int f = 0; f < feuds; f++) {
            row[2 + 6 * children + f] = (byte) (below(3) == 0 ? 1 : 0);
        }
        int c = 167;
        for (int k = 0; k < row.length - 1; k++) {
            c = (5 * c + (row[k] & 255)) % 251;
        }
        row[row.length - 1] = (byte) c;
        feed(row);
        seen[30 + same("on", one(x.on()), m.on())]++;
    }

    private void tellSeams() {
        int rows = below(10) == 0 ? below(19) : 1 + below(3);
        byte[] row = new byte[3 * rows + (below(20) == 0 ? 1 : 0)];
        for (int k = 0; k + 2 < row.length; k += 3) {
            row[k] = (byte) (below(15) == 0 ? below(256) : 1 + below(4));
            row[k + 1] = (byte) (below(10) == 0 ? below(4) : 0);
            row[k + 2] = (byte) (below(3) == 0 ? below(100) : below(4) == 0 ? 0 : below(20));
        }
        int born = below(8) == 0 ? below(110) - 5 : below(4);
        feed(row);
        int fit = same("seams " + born, x.seams(born), m.seams(born));
        seen[16] += fit > 0 ? 1 : 0;
        seen[17] += fit == 0 ? 1 : 0;
        homes();
    }

    private void homes() {
        for (int what = -1; what <= 2; what++) {
            int got = same("homes " + what, x.homes(what), m.homes(what));
            seen[18] += what == 1 && got > 1 ? 1 : 0;
        }
    }

    private void asks(int n) {
        for (int k = 0; k < n; k++) {
            ask(below(20));
        }
    }

    private void ask(int which) {
        int a = below(10) - 1;
        int b = below(9) - 1;
        int c = below(6) - 1;
        switch (which) {
            case 0 -> same("has", x.has(a + c), m.has(a + c));
            case 1 -> same("letter", x.letter(c, a, b), m.letter(c, a, b));
            case 2 -> same("home", x.home(a, c), m.home(a, c));
            case 3 -> same("child", x.child(a, c), m.child(a, c));
            case 4, 5 -> same("stone " + a + " " + b, x.stone(a, b), m.stone(a, b));
            case 6 -> same("wall", x.wall(c, a + b), m.wall(c, a + b));
            case 7 -> same("at", x.at(c, b, a), m.at(c, b, a));
            case 8 -> {
                int n = below(4) == 0 ? below(63) - 1 : below(10);
                int got = same("later " + n + " " + c, x.later(n, c), m.later(n, c));
                seen[19] += c == 2 && got > 0 ? 1 : 0;
            }
            case 9 -> same("built " + a, x.built(a), m.built(a));
            case 10 -> {
                int got = same("down " + a, x.down(a), m.down(a));
                seen[20] += got > 0 && Integer.bitCount(got) > 1 ? 1 : 0;
            }
            case 11 -> {
                int got = same("props " + c, x.props(c), m.props(c));
                seen[21] += got > 0 ? 1 : 0;
                seen[22] += got > 0 && Integer.bitCount(got) > 1 ? 1 : 0;
            }
            case 12 -> {
                int got = same("strongest " + a + " " + c, x.strongest(a, c), m.strongest(a, c));
                seen[23] += got > 0 ? 1 : 0;
            }
            case 13 -> {
                int got = same("order " + b, x.order(b), m.order(b));
                seen[24] += b == -1 && got > 0 ? 1 : 0;
                seen[25] += b > 0 && got >= 0 ? 1 : 0;
            }
            case 14, 15 -> {
                int n = below(4) == 0 ? below(43) : 1 + below(12);
                int got = same("reconcile " + n + " " + c, x.reconcile(n, c), m.reconcile(n, c));
                seen[26] += got >= 0 ? 1 : 0;
            }
            case 16, 17 -> {
                int got = same("pulling " + c, x.pulling(c), m.pulling(c));
                seen[27 + Math.max(0, got)] += got >= 0 ? 1 : 0;
            }
            case 18 -> same("kept", x.kept(a * 7 + b, c), m.kept(a * 7 + b, c));
            default -> same("status", x.status(b), m.status(b));
        }
    }

    /** Everything that can be asked of the end, whatever the calls are then. */
    private void all() {
        for (int what = -1; what < 13; what++) {
            same("has " + what, x.has(what), m.has(what));
        }
        for (int child = -1; child < 9; child++) {
            for (int what = -1; what < 8; what++) {
                same("stone", x.stone(child, what), m.stone(child, what));
                same("child", x.child(child, what), m.child(child, what));
            }
            same("down", x.down(child), m.down(child));
            same("built", x.built(child), m.built(child));
        }
        for (int k = -1; k < 61; k++) {
            for (int what = -1; what < 5; what++) {
                same("kept " + k + " " + what, x.kept(k, what), m.kept(k, what));
            }
        }
        for (int what = -1; what < 7; what++) {
            same("status " + what, x.status(what), m.status(what));
        }
        homes();
    }
}
