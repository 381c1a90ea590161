/** Promises 23 to 30: years, chance, go, pull, peace, undo, seed, kept; with frosts and falls. */
public final class ActsTest {
    private static final String HOMES = "home h talk 9 warm 0;home g talk 4 warm 0;";

    public static void main(String[] args) {
        years();
        draws();
        frosts();
        falls();
        fallsAgainFromTheFirst();
        fallenWait();
        go();
        pull();
        peace();
        undo();
        lastTwenty();
        seed();
        kept();
        Check.finish();
    }

    private static String children(int n) {
        StringBuilder text = new StringBuilder();
        for (int k = 0; k < n; k++) {
            text.append("child ").append((char) ('a' + k)).append(" of h born 0;");
        }
        return text.toString();
    }

    private static void years() {
        StoneRaised x = Check.with(HOMES + children(3) + "wall w wide 2 high 1;raised 1 to 2;frost 100;bites 9;");
        Check.due("years(0)", -1, x.years(0));
        Check.due("years(-1)", -1, x.years(-1));
        Check.due("years(101)", -1, x.years(101));
        Check.due("years(min)", -1, x.years(Integer.MIN_VALUE));
        Check.due("refused", 4, x.status(2));
        Check.due("no act", 0, x.has(10));
        Check.due("one year", 0, x.years(1));
        Check.due("two are built in", 2, x.years(1));
        Check.due("none more", 0, x.years(100));
        Check.due("no frost", 9, x.stone(0, 0));
        Check.due("no draw", 1, x.has(11));
        for (int k = 0; k < 8; k++) {
            x.years(100);
        }
        Check.due("year 902", 902, x.has(5));
        Check.due("beyond 999", -1, x.years(98));
        Check.due("beyond 999", -1, x.chance(98));
        Check.due("to 999", 0, x.years(97));
        Check.due("no more", -1, x.years(1));
        Check.due("no more", -1, x.chance(1));
        Check.due("refused", 8, x.status(2));
        Check.due("year 999", 999, x.has(5));
    }

    private static void draws() {
        StoneRaised x = new StoneRaised();
        Check.due("chance(0)", -1, x.chance(0));
        Check.due("chance(101)", -1, x.chance(101));
        Check.due("no draw when refused", 1, x.has(11));
        Check.due("frost 0", 0, x.chance(3));
        long seed = 1;
        for (int k = 0; k < 3; k++) {
            seed = (1103515245L * seed + 12345L) % (1L << 31);
        }
        Check.due("three draws", seed, x.has(11));
        Check.due("one act", 1, x.has(10));
        StoneRaised y = Check.with("frost 37;");
        y.seed(2147483647);
        seed = 2147483647;
        int frosts = 0;
        for (int k = 0; k < 100; k++) {
            seed = (1103515245L * seed + 12345L) % (1L << 31);
            frosts += seed / 64 % 100 < 37 ? 1 : 0;
        }
        Check.due("frosts of 100 years", frosts, y.chance(100));
        Check.due("the seed", seed, y.has(11));
    }

    private static void frosts() {
        StoneRaised x = Check.with(HOMES + children(2) + "child c of h born 2;wall w wide 2 high 1;raised 1 to 3;frost 100;bites 4;");
        Check.due("three frosts", 3, x.chance(3));
        Check.due("built in behind the frost", 18, x.stone(0, 0));
        x.chance(1);
        Check.due("loses 4", 14, x.stone(0, 0));
        Check.due("raised in it, no loss", 9, x.stone(2, 0));
        x.chance(3);
        Check.due("on the shelf, no loss", 18, x.stone(2, 0));
        Check.due("loses on", 2, x.stone(0, 0));
        x.chance(1);
        Check.due("0 at least", 0, x.stone(0, 0));
    }

    private static void falls() {
        StoneRaised x = Check.with(HOMES + children(3) + "wall w wide 1 high 3;raised 1 to 2;frost 100;bites 1;weighs 4;");
        x.years(2);
        Check.due("three lie", 3, x.wall(0, 2));
        x.chance(1);
        Check.due("8 bear 8", 3, x.wall(0, 2));
        x.chance(1);
        Check.due("7 do not: all fall", 0, x.wall(0, 2));
        Check.due("kept", 6, x.has(9));
        for (int k = 0; k < 3; k++) {
            Check.due("from below on", k, x.kept(3 + k, 1));
            Check.due("fell", 0, x.kept(3 + k, 3));
            Check.due("in year 4", 4, x.kept(3 + k, 0));
        }
        x.chance(1);
        Check.due("a and b again; the shelf does not freeze", 2, x.wall(0, 2));
        Check.due("c would crush a", 2, x.stone(2, 1));
    }

    /** b's leaving the second column halves its twin a in the first one, which was sound till then. */
    private static void fallsAgainFromTheFirst() {
        StoneRaised x = Check.with(HOMES + children(5) + "twins a e;wall w wide 2 high 2;wall v wide 2 high 1;"
            + "raised 1 to 2;weighs 4;bites 3;frost 100;");
        // a below b in the first column, c below e in the second one, d in the other wall.
        Check.due("set", true, Check.on(x, Check.summed(0, 9,
            0, 0, 9, 1, 0, 0,
            0, 0, 9, 1, 0, 1,
            0, 0, 5, 1, 1, 0,
            0, 0, 9, 2, 0, 0,
            0, 0, 9, 1, 1, 1)));
        Check.due("a is whole by its twin", 9, x.stone(0, 6));
        x.chance(1);
        // c bears 2: c and e fall; then a bears half of 6: a and b fall.
        int[] row = {2, 4, 0, 1};
        for (int k = 0; k < 4; k++) {
            Check.due("falls " + k, row[k], x.kept(k, 1));
        }
        Check.due("kept", 4, x.has(9));
        Check.due("only d is left", 1, x.has(7));
    }

    private static void fallenWait() {
        StoneRaised x = Check.with(HOMES + children(2) + "wall w wide 1 high 2;wall v wide 1 high 1;raised 1 to 2;weighs 9;bites 1;frost 100;");
        x.years(2);
        Check.due("b on a", 1, x.at(0, 0, 1));
        x.chance(1);
        Check.due("a bears 8: both fall and wait", 0, x.has(7));
        Check.due("a year later both lie", 2, x.years(1));
        Check.due("a below", 0, x.at(0, 0, 0));
        Check.due("b in the other wall", 1, x.at(1, 0, 0));
        x.pull(0);
        Check.due("what was pulled does not wait", 1, x.years(1));
    }

    private static void go() {
        StoneRaised x = Check.with(HOMES + children(1) + "raised 1 to 4;");
        x.years(2);
        Check.due("9 so far", 9, x.stone(0, 0));
        Check.due("to his own home", false, x.go(0, 0));
        Check.due("to home 2", false, x.go(0, 2));
        Check.due("to home -1", false, x.go(0, -1));
        Check.due("child 1", false, x.go(1, 0));
        Check.due("child -1", false, x.go(-1, 1));
        Check.due("refused", 5, x.status(3));
        Check.due("goes", true, x.go(0, 1));
        Check.due("acts", 2, x.has(10));
        x.years(2);
        Check.due("4 a year then", 17, x.stone(0, 0));
        Check.due("back, with a stone that is done", true, x.go(0, 0));
    }

    private static void pull() {
        StoneRaised x = Check.with(HOMES + children(4) + "twins a d;wall w wide 2 high 2;raised 1 to 2;weighs 5;");
        x.years(2);
        // a 0 0, b 0 1 were too much for a's half until d lay there: d is last by numbers.
        Check.due("a", 0, x.at(0, 0, 0));
        Check.due("b", 1, x.at(0, 1, 0));
        Check.due("d on a", 3, x.at(0, 0, 1));
        x.years(1);
        Check.due("c on b", 2, x.at(0, 1, 1));
        Check.due("not built in", -1, x.pull(4));
        Check.due("child -1", -1, x.pull(-1));
        Check.due("refused", 2, x.status(3));
        Check.due("b and c", 2, x.pull(1));
        Check.due("kept: b", 1, x.kept(4, 1));
        Check.due("kept: then c", 2, x.kept(5, 1));
        Check.due("in this year", 3, x.kept(5, 0));
        Check.due("came down", 0, x.kept(5, 3));
        Check.due("on the shelf", -1, x.pull(1));
        Check.due("d alone: nothing lies on a then", 1, x.pull(3));
        x.undo();
        Check.due("a and d", 2, x.pull(0));
        StoneRaised y = Check.with(HOMES + children(3) + "twins a c;wall w wide 2 high 2;raised 1 to 2;weighs 5;");
        Check.due("set", true, Check.on(y, Check.summed(0, 9, 0, 0, 9, 1, 0, 0, 0, 0, 9, 1, 0, 1, 0, 0, 9, 1, 1, 0)));
        Check.due("c, then a and b fall", 3, y.pull(2));
        int[] row = {2, 0, 1};
        for (int k = 0; k < 3; k++) {
            Check.due("kept " + k, row[k], y.kept(k, 1));
        }
    }

    private static void peace() {
        StoneRaised x = Check.with(HOMES + children(3) + "feud a b;feud c b;");
        Check.due("feud -1", false, x.peace(-1));
        Check.due("feud 2", false, x.peace(2));
        Check.due("feud 32", false, x.peace(32));
        Check.due("refused", 3, x.status(3));
        Check.due("ended", true, x.peace(1));
        Check.due("ended already", false, x.peace(1));
        Check.due("one is left", 1, x.has(4));
        Check.due("as told", 2, x.has(3));
        Check.due("b has one", 1, x.child(1, 3));
        Check.due("the other one", true, x.peace(0));
        Check.due("none is left", 0, x.has(4));
        x.undo();
        Check.due("one again", 1, x.has(4));
    }

    private static void undo() {
        StoneRaised x = Check.with(HOMES + children(4) + "feud a d;wall w wide 2 high 2;raised 1 to 2;weighs 4;bites 1;frost 100;");
        Check.due("nothing to undo", false, x.undo());
        Check.due("refused", 1, x.status(4));
        x.years(2);
        byte[] first = Check.imageOf(x);
        int kept = x.has(9);
        x.go(1, 1);
        x.peace(0);
        x.chance(5);
        int seed = x.has(11);
        x.pull(0);
        Check.due("acts", 5, x.has(10));
        for (int k = 0; k < 4; k++) {
            Check.due("undone", true, x.undo());
        }
        Check.due("acts", 1, x.has(10));
        Check.due("the seed stays", seed, x.has(11));
        Check.due("kept as it was", kept, x.has(9));
        byte[] then = Check.imageOf(x);
        Check.due("all as it was", true, java.util.Arrays.equals(first, then));
        Check.due("undone", true, x.undo());
        Check.due("as at first", 0, x.has(5));
        Check.due("nothing lies", 0, x.has(7));
        Check.due("nothing kept", 0, x.has(9));
        Check.due("no more", false, x.undo());
        Check.due("refused", 2, x.status(4));
    }

    private static void lastTwenty() {
        StoneRaised x = new StoneRaised();
        for (int k = 0; k < 33; k++) {
            x.years(1);
        }
        Check.due("twenty", 20, x.has(10));
        for (int k = 0; k < 20; k++) {
            Check.due("undone", true, x.undo());
            Check.due("year", 32 - k, x.has(5));
        }
        Check.due("no more", false, x.undo());
        x.years(7);
        x.years(8);
        Check.due("undone", true, x.undo());
        Check.due("year", 20, x.has(5));
    }

    private static void seed() {
        StoneRaised x = new StoneRaised();
        Check.due("seed(-1)", false, x.seed(-1));
        Check.due("refused", 1, x.status(5));
        Check.due("stays", 1, x.has(11));
        Check.due("seed(0)", true, x.seed(0));
        Check.due("seed", 0, x.has(11));
        Check.due("no act", 0, x.has(10));
        x.chance(1);
        Check.due("a draw of 0", 12345, x.has(11));
    }

    private static void kept() {
        StoneRaised x = Check.with(HOMES + children(2) + "wall v wide 1 high 1;wall w wide 1 high 1;raised 1 to 2;");
        x.years(2);
        int[][] want = {{2, 0, 0, 1}, {2, 1, 1, 1}};
        for (int k = 0; k < 2; k++) {
            for (int what = 0; what < 4; what++) {
                Check.due("kept(" + k + ", " + what + ")", want[k][what], x.kept(k, what));
            }
        }
        Check.due("kept(2)", -1, x.kept(2, 0));
        Check.due("kept(-1)", -1, x.kept(-1, 0));
        Check.due("what 4", -1, x.kept(0, 4));
        Check.due("what -1", -1, x.kept(0, -1));
        for (int k = 0; k < 29; k++) {
            x.pull(1);
            x.years(1);
        }
        Check.due("sixty", 60, x.has(9));
        Check.due("the first ones still", 0, x.kept(0, 1));
        x.pull(1);
        Check.due("the last sixty", 60, x.has(9));
        Check.due("the oldest is b", 1, x.kept(0, 1));
        Check.due("the latest fell", 0, x.kept(59, 3));
        Check.due("in year 31", 31, x.kept(59, 0));
        for (int k = 1; k < 60; k++) {
            Check.due("year of " + k, 2 + k / 2, x.kept(k, 0));
            Check.due("built in or not, " + k, 1 - k % 2, x.kept(k, 3));
        }
        Check.due("kept(60)", -1, x.kept(60, 0));
        x.undo();
        Check.due("sixty", 60, x.has(9));
        Check.due("the first ones are back", 0, x.kept(0, 1));
    }
}
