import java.util.Arrays;

/** Promises 31 to 34: image, octet, on, status. */
public final class ImageTest {
    private static final String TEXT = "home h talk 9 warm 0;home g talk 4 warm 0;child a of h born 0;child b of h born 0;"
        + "child c of g born 50;feud a c;feud b c;wall w wide 1 high 2;wall v wide 2 high 1;raised 1 to 3;weighs 4;";

    /** Year 300; a lies below b in w, c on the shelf in g, 600 strong; the second feud is ended. */
    private static final int[] GOOD = {1, 44, 0, 0, 18, 1, 0, 0, 0, 0, 17, 1, 0, 1, 1, 2, 88, 0, 0, 0, 0, 1};

    public static void main(String[] args) {
        write();
        read();
        wrong();
        places();
        forgets();
        status();
        Check.finish();
    }

    private static void write() {
        StoneRaised x = Check.with(TEXT);
        Check.due("octet ahead of any image", -1, x.octet(0));
        Check.due("bytes", 23, x.image());
        x.years(3);
        x.peace(1);
        Check.due("still the latest image", 0, x.octet(1));
        x.image();
        int[] want = {0, 3, 0, 0, 18, 1, 0, 0, 0, 0, 18, 1, 0, 1, 1, 0, 0, 0, 0, 0, 0, 1};
        byte[] all = Check.summed(want);
        for (int k = 0; k < all.length; k++) {
            Check.due("octet " + k, all[k] & 255, x.octet(k));
        }
        Check.due("octet(-1)", -1, x.octet(-1));
        Check.due("octet(23)", -1, x.octet(23));
        Check.town(x, "");
        Check.due("a new town leaves the image", 3, x.octet(1));
        Check.due("an empty town's", 3, x.image());
        Check.due("167 by 5 twice, mod 251", 167 * 5 % 251 * 5 % 251, x.octet(2));
        Check.due("octet(3)", -1, x.octet(3));
    }

    private static void read() {
        StoneRaised x = Check.with(TEXT);
        Check.due("on", true, Check.on(x, Check.summed(GOOD)));
        Check.due("year", 300, x.has(5));
        Check.due("a", 0, x.at(0, 0, 0));
        Check.due("b", 1, x.at(0, 0, 1));
        Check.due("a is strong", 18, x.stone(0, 0));
        Check.due("b is strong", 17, x.stone(1, 0));
        Check.due("c is strong", 600, x.stone(2, 0));
        Check.due("c is on the shelf", 2, x.stone(2, 1));
        Check.due("c's home", 1, x.child(2, 0));
        Check.due("feuds", 1, x.has(4));
        Check.due("a's feud", 4, x.child(0, 3));
        Check.due("the same again", true, Arrays.equals(Check.summed(GOOD), Check.imageOf(x)));
        int[] weak = GOOD.clone();
        weak[4] = 3;
        Check.due("whether all hold is not asked", true, Check.on(x, Check.summed(weak)));
        Check.due("a bears 3", 3, x.stone(0, 6));
        Check.due("a year on both fall", 2, x.later(1, 2));
        Check.due("columns count", 2, x.wall(0, 10));
    }

    private static void change(String why, boolean want, int... changes) {
        StoneRaised x = Check.with(TEXT);
        x.years(1);
        int[] row = GOOD.clone();
        for (int k = 0; k < changes.length; k += 2) {
            row[changes[k]] = changes[k + 1];
        }
        Check.due(why, want, Check.on(x, Check.summed(row)));
        Check.due(why + ": refused", want ? 0 : 1, x.status(5));
        Check.due(why + ": year", want ? row[0] * 256 + row[1] : 1, x.has(5));
        Check.due(why + ": the tape went", false, x.end(1));
        Check.due(why + ": acts", want ? 0 : 1, x.has(10));
    }

    private static void wrong() {
        change("as it is", true);
        change("year 999", true, 0, 3, 1, 231);
        change("year 1000", false, 0, 3, 1, 232);
        change("strength 999", true, 15, 3, 16, 231);
        change("strength 1000", false, 15, 3, 16, 232);
        change("home 2", false, 14, 2);
        change("home 0 for another", true, 14, 0);
        change("wall 3", false, 5, 3);
        change("a column without a wall", false, 18, 1);
        change("a course without a wall", false, 19, 1);
        change("a feud of 2", false, 20, 2);
        change("both feuds ended", true, 20, 1);
        StoneRaised x = Check.with(TEXT);
        byte[] good = Check.summed(GOOD);
        Check.due("a byte too few", false, Check.on(x, Arrays.copyOf(good, good.length - 1)));
        Check.due("a byte too many", false, Check.on(x, Arrays.copyOf(good, good.length + 1)));
        Check.due("no bytes", false, Check.on(x, new byte[0]));
        byte[] sum = good.clone();
        sum[sum.length - 1]++;
        Check.due("another sum", false, Check.on(x, sum));
        Check.due("refused", 4, x.status(5));
        Check.due("of another town", false, Check.on(new StoneRaised(), good));
        Check.due("an empty town's", true, Check.on(new StoneRaised(), Check.summed(0, 9)));
    }

    private static void places() {
        change("b on the ground of v", true, 11, 2, 13, 0);
        change("b at v's second column", true, 11, 2, 12, 1, 13, 0);
        change("b beside v", false, 11, 2, 12, 2, 13, 0);
        change("b above v", false, 11, 2, 13, 1);
        change("b above w", false, 13, 2);
        change("b beside w", false, 12, 1, 13, 0);
        change("two at one place", false, 13, 0);
        change("b on nothing", false, 5, 0);
        change("b below a", true, 7, 1, 13, 0);
        change("a on nothing", false, 7, 1, 11, 0, 13, 0);
        change("none lies", true, 5, 0, 11, 0, 13, 0);
        change("c on b, above w", false, 17, 1, 19, 2);
        String four = "home h talk 1 warm 1;child a of h born 0;wall p wide 4 high 4;wall q wide 4 high 4;"
            + "wall r wide 4 high 4;wall s wide 4 high 4;";
        StoneRaised x = Check.with(four);
        Check.due("the fourth wall", true, Check.on(x, Check.summed(0, 50, 0, 0, 1, 4, 3, 0)));
        Check.due("a lies there", 0, x.at(3, 3, 0));
        Check.due("a fifth wall", false, Check.on(x, Check.summed(0, 50, 0, 0, 1, 5, 3, 0)));
        Check.due("wall 255", false, Check.on(x, Check.summed(0, 50, 0, 0, 1, 255, 3, 0)));
        Check.due("a fifth column", false, Check.on(x, Check.summed(0, 50, 0, 0, 1, 4, 4, 0)));
        Check.due("a fifth course", false, Check.on(x, Check.summed(0, 50, 0, 0, 1, 1, 0, 4)));
        Check.due("at(3, 2, 4)", -1, x.at(3, 2, 4));
        Check.due("at(3, 4, 0)", -1, x.at(3, 4, 0));
        Check.due("at(2, 7, 0)", -1, x.at(2, 7, 0));
        // c is born in 50 and done in 53.
        change("c lies done", true, 0, 0, 1, 53, 17, 2);
        change("c lies not done", false, 0, 0, 1, 52, 17, 2);
        change("c not built in, not done", true, 0, 0, 1, 52);
        change("a and b not done", false, 0, 0, 1, 2);
    }

    private static void forgets() {
        StoneRaised x = Check.with(TEXT);
        x.seed(99);
        x.years(3);
        Check.due("kept", 2, x.has(9));
        Check.due("on", true, Check.on(x, Check.imageOf(x)));
        Check.due("nothing kept", 0, x.has(9));
        Check.due("kept(0)", -1, x.kept(0, 0));
        Check.due("nothing to undo", false, x.undo());
        Check.due("the seed stays", 99, x.has(11));
        Check.due("year", 3, x.has(5));
    }

    private static void status() {
        StoneRaised x = new StoneRaised();
        for (int what = 0; what < 6; what++) {
            Check.due("status(" + what + ") at first", 0, x.status(what));
        }
        x.end(1);
        x.end(-1);
        Check.town(x, "x");
        x.years(0);
        x.chance(0);
        x.years(101);
        x.go(0, 0);
        x.pull(0);
        x.peace(0);
        x.go(0, 0);
        x.undo();
        x.seed(-5);
        x.seams(0);
        x.on();
        x.on();
        x.seed(-5);
        x.order(9);
        x.later(99, 9);
        int[] want = {2, 1, 3, 4, 1, 5};
        for (int what = 0; what < 6; what++) {
            Check.due("status(" + what + ")", want[what], x.status(what));
        }
        Check.due("status(6)", -1, x.status(6));
        Check.due("status(-1)", -1, x.status(-1));
    }
}
