/** Promises 13 to 19 and 22: later, built, down, props, strongest, order, reconcile, pulling. */
public final class AheadTest {
    private static final String HOME = "home h talk 5 warm 0;";

    public static void main(String[] args) {
        later();
        laterFalls();
        edges();
        built();
        down();
        props();
        strongest();
        order();
        orderTooLong();
        reconcile();
        pulling();
        Check.finish();
    }

    private static String children(int n) {
        StringBuilder text = new StringBuilder();
        for (int k = 0; k < n; k++) {
            text.append("child ").append((char) ('a' + k)).append(" of h born 0;");
        }
        return text.toString();
    }

    /** A town set into a year by an image: of each stone strength, wall and 1, column, course. */
    private static StoneRaised set(String text, int year, int feuds, int[]... stones) {
        StoneRaised x = Check.with(text);
        int[] row = new int[2 + 6 * stones.length + feuds];
        row[0] = year / 256;
        row[1] = year % 256;
        for (int k = 0; k < stones.length; k++) {
            row[2 + 6 * k + 1] = stones[k][0] / 256;
            row[2 + 6 * k + 2] = stones[k][0] % 256;
            System.arraycopy(stones[k], 1, row, 2 + 6 * k + 3, 3);
        }
        Check.due("set", true, Check.on(x, Check.summed(row)));
        return x;
    }

    private static int[] lies(int strong, int wall, int column, int course) {
        return new int[] {strong, wall + 1, column, course};
    }

    private static int[] off(int strong) {
        return new int[] {strong, 0, 0, 0};
    }

    private static void later() {
        StoneRaised x = Check.with(HOME + "child a of h born 0;child b of h born 1;child c of h born 40;"
            + "wall w wide 1 high 1;raised 1 to 3;frost 100;");
        int[][] want = {{0, 0, 0, 0}, {0, 0, 0, 0}, {0, 0, 0, 5}, {1, 0, 0, 15}, {1, 2, 0, 20}};
        for (int n = 0; n < want.length; n++) {
            for (int what = 0; what < 4; what++) {
                Check.due("later(" + n + ", " + what + ")", want[n][what], x.later(n, what));
            }
        }
        Check.due("later(60, 1)", 6, x.later(60, 1));
        Check.due("later(60, 3)", 30, x.later(60, 3));
        Check.due("nothing changed", 0, x.has(5));
        Check.due("no draw", 1, x.has(11));
        Check.due("nothing kept", 0, x.has(9));
        Check.due("no act", 0, x.has(10));
    }

    private static void laterFalls() {
        StoneRaised x = set(HOME + children(3) + "wall w wide 1 high 3;raised 1 to 2;weighs 4;", 9, 0,
            lies(7, 0, 0, 0), lies(9, 0, 0, 1), lies(1, 0, 0, 2));
        Check.due("now all lie", 7, x.later(0, 0));
        Check.due("none fell now", 0, x.later(0, 2));
        Check.due("a bears 7, not 8: all fall", 0, x.later(1, 0));
        Check.due("onto the shelf", 7, x.later(1, 1));
        Check.due("three fell", 3, x.later(1, 2));
        Check.due("a and b lie again", 3, x.later(2, 0));
        Check.due("three fell in all", 3, x.later(9, 2));
    }

    private static void edges() {
        StoneRaised x = Check.with(HOME + children(1) + "raised 1 to 2;wall w wide 1 high 1;");
        int[][] none = {{-1, 0}, {61, 0}, {0, -1}, {0, 4}, {Integer.MAX_VALUE, 0}};
        for (int[] a : none) {
            Check.due("later(" + a[0] + ", " + a[1] + ")", -1, x.later(a[0], a[1]));
        }
        for (int k = 0; k < 9; k++) {
            x.years(100);
        }
        x.years(60);
        Check.due("year 960", 960, x.has(5));
        Check.due("to year 999", 1, x.later(39, 0));
        Check.due("beyond year 999", -1, x.later(40, 0));
        Check.due("reconcile beyond", -1, x.reconcile(40, 0));
    }

    private static void built() {
        StoneRaised x = Check.with(HOME + "child a of h born 0;child b of h born 59;child c of h born 58;child d of h born 0;"
            + "wall w wide 4 high 1;raised 1 to 2;");
        Check.due("a", 2, x.built(0));
        Check.due("b too late", -1, x.built(1));
        Check.due("c in the 60th", 60, x.built(2));
        Check.due("d", 2, x.built(3));
        Check.due("child 4", -1, x.built(4));
        Check.due("child -1", -1, x.built(-1));
        x.years(1);
        Check.due("a sooner", 1, x.built(0));
        Check.due("b in the 60th", 60, x.built(1));
        x.years(1);
        Check.due("a now", 0, x.built(0));
        StoneRaised y = Check.with(HOME + children(1) + "wall w wide 1 high 1;may year=999;raised 1 to 2;");
        for (int k = 0; k < 9; k++) {
            y.years(100);
        }
        Check.due("too far", -1, y.built(0));
        y.years(50);
        Check.due("in year 999", 49, y.built(0));
        StoneRaised z = Check.with(HOME + children(1) + "wall w wide 1 high 1;may year<1;raised 1 to 2;");
        Check.due("never", -1, z.built(0));
    }

    private static void down() {
        String text = HOME + children(5) + "twins a d;wall w wide 2 high 2;wall v wide 1 high 2;raised 1 to 2;weighs 4;";
        StoneRaised x = set(text, 9, 0, lies(7, 0, 0, 0), lies(9, 0, 0, 1), off(9), lies(9, 0, 1, 0), lies(1, 0, 1, 1));
        Check.due("the topmost alone", 2, x.down(1));
        Check.due("with the one above", 3, x.down(0));
        Check.due("the twin's leaving halves a", 1 + 2 + 8 + 16, x.down(3));
        Check.due("on the shelf anyway", -1, x.down(2));
        Check.due("child 5", -1, x.down(5));
        Check.due("child -1", -1, x.down(-1));
        Check.due("nothing changed", 4, x.has(7));
    }

    private static void props() {
        String text = HOME + children(4) + "wall w wide 1 high 4;wall v wide 2 high 2;raised 1 to 2;weighs 4;bites 2;";
        StoneRaised x = set(text, 9, 0, lies(14, 0, 0, 0), lies(10, 0, 0, 1), lies(6, 0, 0, 2), lies(0, 0, 0, 3));
        Check.due("all bear a frost", 0, x.props(0));
        Check.due("an empty wall", 0, x.props(1));
        Check.due("wall 2", -1, x.props(2));
        Check.due("wall -1", -1, x.props(-1));
        StoneRaised low = set(text, 9, 0, lies(13, 0, 0, 0), lies(10, 0, 0, 1), lies(6, 0, 0, 2), lies(0, 0, 0, 3));
        Check.due("a itself, of those that help", 1, low.props(0));
        StoneRaised mid = set(text, 9, 0, lies(14, 0, 0, 0), lies(9, 0, 0, 1), lies(6, 0, 0, 2), lies(0, 0, 0, 3));
        Check.due("b: a counts none of it", 2, mid.props(0));
        StoneRaised top = set(text, 9, 0, lies(13, 0, 0, 0), lies(9, 0, 0, 1), lies(5, 0, 0, 2), lies(0, 0, 0, 3));
        Check.due("c alone would not do for itself and b; c: a bears 4, b 0", 4, top.props(0));
        StoneRaised two = set(text, 9, 0, lies(5, 0, 0, 0), lies(5, 0, 0, 1), lies(5, 0, 0, 2), lies(0, 0, 0, 3));
        Check.due("none alone does: a and c", 5, two.props(0));
        StoneRaised wide = set(text, 9, 0, lies(5, 1, 0, 0), lies(5, 1, 0, 1), lies(5, 1, 1, 0), lies(5, 1, 1, 1));
        Check.due("one a column", 5, wide.props(1));
        String twins = text + "twins a d;";
        StoneRaised apart = set(twins, 9, 0, lies(9, 0, 0, 0), lies(0, 0, 0, 1), off(0), lies(9, 1, 0, 0));
        Check.due("half of 7 is 3", 1, apart.props(0));
        StoneRaised near = set(twins, 9, 0, lies(9, 0, 0, 0), off(0), off(0), lies(0, 0, 0, 1));
        Check.due("near its twin", 0, near.props(0));
    }

    private static void strongest() {
        StoneRaised x = Check.with("home p talk 2 warm 9;home q talk 5 warm 0;home r talk 5 warm 0;"
            + "child a of p born 0;child b of p born 99;raised 1 to 4;gains if(age<3,talk,warm);");
        Check.due("2+2+9", 13, x.strongest(0, 1));
        Check.due("p", 0, x.strongest(0, 0));
        x.years(1);
        Check.due("year 1: p still", 0, x.strongest(0, 0));
        x.go(0, 1);
        x.years(2);
        Check.due("q so far: 10", 10, x.stone(0, 0));
        Check.due("p for the last year", 0, x.strongest(0, 0));
        Check.due("10+9", 19, x.strongest(0, 1));
        Check.due("far ahead", 13, x.strongest(1, 1));
        x.years(1);
        Check.due("done", -1, x.strongest(0, 0));
        Check.due("done", -1, x.strongest(0, 1));
        Check.due("what 2", -1, x.strongest(1, 2));
        Check.due("what -1", -1, x.strongest(1, -1));
        Check.due("child 2", -1, x.strongest(2, 0));
        Check.due("child -1", -1, x.strongest(-1, 0));
        StoneRaised y = Check.with("home p talk 2 warm 9;home q talk 5 warm 0;home r talk 5 warm 0;child a of p born 0;");
        Check.due("of like ones the first", 1, y.strongest(0, 0));
        Check.due("14 years of 5", 70, y.strongest(0, 1));
    }

    private static void order() {
        String text = HOME + children(4) + "wall w wide 1 high 4;raised 1 to 2;weighs 4;";
        StoneRaised x = set(text, 9, 0, off(0), off(4), off(8), off(3));
        Check.due("how many", 3, x.order(-1));
        int[] row = {2, 1, 0, 3};
        for (int k = 0; k < 4; k++) {
            Check.due("order(" + k + ")", row[k], x.order(k));
        }
        Check.due("order(4)", -1, x.order(4));
        Check.due("order(-2)", -1, x.order(-2));
        Check.due("nothing changed", 4, x.has(6));
        Check.due("nothing kept", 0, x.has(9));
        StoneRaised y = set(HOME + children(3) + "feud a b;wall w wide 3 high 1;raised 1 to 2;", 9, 1, off(1), off(1), off(1));
        Check.due("b between a's and c's place", 3, y.order(-1));
        int[] rest = {0, 2, 1};
        for (int k = 0; k < 3; k++) {
            Check.due("order(" + k + ")", rest[k], y.order(k));
        }
        StoneRaised none = set(HOME + children(2) + "wall w wide 1 high 1;may year=8;raised 1 to 2;", 9, 0, off(1), off(1));
        Check.due("the year is now", 0, none.order(-1));
        Check.due("the first by children", 0, none.order(0));
        Check.due("the first by children", 1, none.order(1));
    }

    private static void orderTooLong() {
        int[][] six = {off(1), off(1), off(1), off(1), off(1), off(1), lies(1, 0, 0, 0)};
        int[][] seven = {off(1), off(1), off(1), off(1), off(1), off(1), off(1)};
        String text = HOME + children(7) + "wall w wide 4 high 1;raised 1 to 2;";
        StoneRaised x = set(text, 9, 0, six);
        Check.due("six on the shelf", 3, x.order(-1));
        Check.due("the last", 5, x.order(5));
        Check.due("behind the last", -1, x.order(6));
        StoneRaised y = set(text, 9, 0, seven);
        Check.due("seven on the shelf", -1, y.order(-1));
        Check.due("seven on the shelf", -1, y.order(0));
    }

    private static void reconcile() {
        String text = HOME + children(4) + "wall w wide 2 high 1;wall v wide 2 high 1;raised 1 to 2;";
        StoneRaised x = Check.with(text + "feud a b;feud a c;feud a d;");
        // a lies left in w, none beside it; b, c lie in v; each end brings d, or b, into w.
        Check.due("later", 7, x.later(2, 0));
        Check.due("ending a b: b into w, c d into v", 0, x.reconcile(2, 0));
        Check.due("one more", 1, x.reconcile(2, 1));
        Check.due("too early", -1, x.reconcile(1, 0));
        Check.due("what 2", -1, x.reconcile(2, 2));
        Check.due("what -1", -1, x.reconcile(2, -1));
        Check.due("n 0", -1, x.reconcile(0, 0));
        Check.due("n 40", 0, x.reconcile(40, 0));
        Check.due("n 41", -1, x.reconcile(41, 0));
        x.peace(0);
        Check.due("ended already", -1, x.reconcile(2, 0));
        Check.due("without", -1, x.reconcile(2, 1));
        StoneRaised end = set(text + "feud a b;feud a c;feud a d;", 950, 3, off(9), off(9), off(9), off(9));
        end.years(9);
        Check.due("to year 999: d is left, beside a", 2, end.reconcile(40, 0));
        end.years(1);
        Check.due("beyond year 999", -1, end.reconcile(40, 0));
        StoneRaised soon = set(text + "feud a b;feud a c;feud a d;", 950, 3, off(9), off(9), off(9), off(9));
        Check.due("one year ahead", 0, soon.reconcile(1, 0));
        StoneRaised y = Check.with(text + "feud b c;feud a b;");
        Check.due("ending a b alone helps not: c is off v's b", -1, y.reconcile(2, 0));
    }

    private static void pulling() {
        String text = HOME + children(5) + "wall w wide 2 high 3;wall v wide 1 high 1;raised 1 to 2;weighs 4;";
        StoneRaised one = set(text, 9, 0, lies(0, 0, 0, 0), off(1), off(1), off(1), off(1));
        Check.due("one stone", 1, one.pulling(0));
        Check.due("no stone", 0, one.pulling(1));
        Check.due("wall 2", -1, one.pulling(2));
        Check.due("wall -1", -1, one.pulling(-1));
        Check.due("nothing changed", 1, one.has(7));
        StoneRaised two = set(text, 9, 0, lies(9, 0, 0, 0), lies(0, 0, 0, 1), off(1), off(1), off(1));
        Check.due("two stones", 0, two.pulling(0));
        StoneRaised three = set(text, 9, 0, lies(9, 0, 0, 0), lies(0, 0, 0, 1), lies(0, 0, 1, 0), off(1), off(1));
        Check.due("three stones", 1, three.pulling(0));
        // a bears b while its twin c is there: c can't be pulled ahead of b, so the first one has
        // to pull b, and two are left.
        String twins = text + "twins a c;";
        StoneRaised tied = set(twins, 9, 0, lies(7, 0, 0, 0), lies(0, 0, 0, 1), lies(7, 0, 1, 0), off(1), off(1));
        Check.due("twins, three stones", 1, tied.pulling(0));
        // d on c, b on a: any pull but of d or b falls; then the other top, then two.
        StoneRaised four = set(twins, 9, 0, lies(7, 0, 0, 0), lies(0, 0, 0, 1), lies(7, 0, 1, 0), lies(0, 0, 1, 1), off(1));
        Check.due("twins, four stones", 0, four.pulling(0));
        // a does not hold and no single pull mends that.
        StoneRaised weak = set(text, 9, 0, lies(3, 0, 0, 0), lies(9, 0, 0, 1), lies(9, 0, 0, 2), off(1), off(1));
        Check.due("no pull leaves all holding", 0, weak.pulling(0));
        StoneRaised mend = set(text, 9, 0, lies(4, 0, 0, 0), lies(9, 0, 0, 1), lies(9, 0, 0, 2), off(1), off(1));
        Check.due("a pull mends it", 1, mend.pulling(0));
    }
}
