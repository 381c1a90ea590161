import java.util.Map;
import java.util.function.Consumer;

/** The boundary sentences of promises 23 to 30: years, chance, go, pull, peace, undo, seed, kept. */
public final class ActsBoundsTest {
    private static final int[] FAR = {Integer.MIN_VALUE, -1, Integer.MAX_VALUE};

    public static void main(String[] args) {
        years();
        yearsRefused();
        chance();
        chanceRefused();
        beyondLeavesAll();
        go();
        goRefused();
        pull();
        pullRefused();
        peace();
        peaceRefused();
        undo();
        undoEachAct();
        undoPlaces();
        undoRefused();
        lastTwenty();
        refusedIsNoAct();
        seed();
        kept();
        keptSixty();
        keptBack();
        Check.finish();
    }

    private static StoneRaised set(String text, int children, int[]... stones) {
        return Scene.set(Scene.HOME + Scene.children(children) + "raised 1 to 2;" + text, 9, stones);
    }

    private static int[] lies(int strong, int wall, int column, int course) {
        return Scene.lies(strong, wall, column, course);
    }

    private static int[] off(int strong) {
        return Scene.off(strong);
    }

    private static void years() {
        Says s = Says.promise(23, "n YEARS go by (1 .. 100), without DRAWS: how many stones were BUILT IN;");
        StoneRaised x = Check.with(Scene.HOME + Scene.children(2) + "child c of hut born 3;raised 1 to 2;wall w wide 4 high 1;frost 100;");
        s.due("1 YEAR: none", 0, x.years(1));
        s.due("the YEAR", 1, x.has(5));
        s.due("2 in the next one", 2, x.years(1));
        s.due("what lay there is not counted again", 1, x.years(100));
        s.due("the YEAR", 102, x.has(5));
        s.due("100 again", 0, x.years(100));
        s.due("without DRAWS", 1, x.has(11));
        s.due("four ACTS", 4, x.has(10));
        StoneRaised weak = set("weighs 4;wall w wide 1 high 2;", 2, lies(3, 0, 0, 0), lies(4, 0, 0, 1));
        s.due("what FELL and is BUILT IN again counts", 1, weak.years(2));
        StoneRaised last = Scene.set(Scene.HOME + Scene.children(1) + "raised 1 to 2;wall w wide 1 high 1;may year=999;", 899, off(1));
        s.due("100 to YEAR 999", 1, last.years(100));
        s.due("YEAR 999", 999, last.has(5));
    }

    private static void yearsRefused() {
        Says s = Says.promise(23, "NONE, refused (2), when it can't be (beyond YEAR 999).");
        for (int n : new int[] {0, 101, Integer.MIN_VALUE, -1, Integer.MAX_VALUE}) {
            s.due("years(" + n + ")", -1, Scene.lively().years(n));
            Scene.refused(s, "years(" + n + ")", 2, x -> x.years(n));
        }
        StoneRaised x = in(900);
        s.due("100 from 900 on", -1, x.years(100));
        s.due("99 from 900 on", 0, x.years(99));
        s.due("1 from 999 on", -1, x.years(1));
        s.due("refused", 2, x.status(2));
        s.due("YEAR 999", 999, x.has(5));
    }

    private static StoneRaised in(int year) {
        return Scene.set(Scene.HOME + "frost 50;", year);
    }

    private static void chance() {
        Says s = Says.promise(24, "n YEARS by the seed (1 .. 100), one ACT: in how many there was a frost;");
        StoneRaised x = Check.with("frost 30;");
        long seed = 1;
        int frosts = 0;
        for (int n = 1; n <= 100; n += 33) {
            int due = 0;
            for (int k = 0; k < n; k++) {
                seed = (1103515245L * seed + 12345L) % (1L << 31);
                due += seed / 64 % 100 < 30 ? 1 : 0;
            }
            s.due(n + " YEARS", due, x.chance(n));
            s.due(n + " YEARS: the seed", seed, x.has(11));
            frosts += due;
        }
        s.due("there were some, and not always", true, frosts > 0 && frosts < 202);
        s.due("four ACTS", 4, x.has(10));
        s.due("the YEAR", 1 + 34 + 67 + 100, x.has(5));
        x.undo();
        s.due("100 YEARS are one ACT", 102, x.has(5));
        s.due("frost 0", 0, Check.with("frost 0;").chance(100));
        s.due("frost 100", 100, Check.with("frost 100;").chance(100));
    }

    private static void chanceRefused() {
        Says s = Says.promise(24, "NONE, refused (2), when it can't be.");
        for (int n : new int[] {0, 101, Integer.MIN_VALUE, -1, Integer.MAX_VALUE}) {
            s.due("chance(" + n + ")", -1, Scene.lively().chance(n));
            Scene.refused(s, "chance(" + n + "), the seed, too,", 2, x -> x.chance(n));
        }
        StoneRaised x = in(900);
        s.due("100 from 900 on", -1, x.chance(100));
        s.due("no DRAW", 1, x.has(11));
        s.due("99 from 900 on", true, x.chance(99) >= 0);
        s.due("YEAR 999", 999, x.has(5));
        int seed = x.has(11);
        s.due("1 from 999 on", -1, x.chance(1));
        s.due("no DRAW", seed, x.has(11));
        s.due("refused", 2, x.status(2));
    }

    /** Years that would go beyond 999 leave all as it is: none of them goes by. */
    private static void beyondLeavesAll() {
        Says s = Says.promise(23, "NONE, refused (2), when it can't be (beyond YEAR 999).");
        String text = Scene.HOME + Scene.children(1) + "child b of hut born 99;raised 1 to 2;frost 100;wall w wide 1 high 1;";
        for (int which = 0; which < 2; which++) {
            StoneRaised x = Scene.set(text, 998, off(5), off(0));
            s.due("2 from 998 on", -1, which == 0 ? x.years(2) : x.chance(2));
            s.due("YEAR 998", 998, x.has(5));
            s.due("a is on the SHELF", 2, x.stone(0, 1));
            s.due("nothing is KEPT", 0, x.has(9));
            s.due("no ACT", 0, x.has(10));
            s.due("the seed", 1, x.has(11));
        }
    }

    private static void go() {
        Says s = Says.promise(25, "A CHILD goes to another HOME: true;");
        StoneRaised x = Check.with("home a talk 1 warm 1;home b talk 2 warm 2;child c of a born 0;child d of b born 0;raised 1 to 4;");
        x.years(2);
        s.due("c to b", true, x.go(0, 1));
        s.due("his HOME", 1, x.child(0, 0));
        s.due("its CHILDREN", 3, x.home(1, 2));
        s.due("the other one's HOME", 1, x.child(1, 0));
        s.due("d to a", true, x.go(1, 0));
        x.years(2);
        s.due("1 and 2 and 2", 5, x.stone(0, 0));
        s.due("2 and 1 and 1", 4, x.stone(1, 0));
        s.due("DONE, and back", true, x.go(0, 0));
        s.due("five ACTS", 5, x.has(10));
    }

    private static void goRefused() {
        Says s = Says.promise(25, "false, refused (3), when there are none such, or it is his already.");
        StoneRaised x = Scene.lively();
        int[] homes = {x.child(0, 0), x.child(1, 0), x.child(2, 0)};
        for (int child = 0; child < 3; child++) {
            int at = child;
            s.due("it is his already: " + child, false, x.go(child, homes[child]));
            Scene.refused(s, "it is his already: " + child, 3, y -> y.go(at, homes[at]));
        }
        int[][] bad = {{3, 0}, {-1, 0}, {0, 2}, {0, -1}, {Integer.MAX_VALUE, 0}, {Integer.MIN_VALUE, 1}, {0, Integer.MAX_VALUE},
            {0, Integer.MIN_VALUE}, {8, 1}, {0, 6}};
        for (int[] b : bad) {
            s.due("go(" + b[0] + ", " + b[1] + ")", false, Scene.lively().go(b[0], b[1]));
            Scene.refused(s, "go(" + b[0] + ", " + b[1] + ")", 3, y -> y.go(b[0], b[1]));
        }
    }

    private static void pull() {
        Says s = Says.promise(26, "A stone is PULLED: how many came DOWN;");
        String text = "weighs 4;twins a d;wall w wide 2 high 3;";
        int[][] stones = {lies(15, 0, 0, 0), lies(9, 0, 0, 1), lies(9, 0, 0, 2), lies(9, 0, 1, 0), off(9)};
        int[] want = {3, 2, 1, 4};
        for (int child = 0; child < 4; child++) {
            StoneRaised x = set(text, 5, stones);
            s.due("pull(" + child + ")", want[child], x.pull(child));
            s.due("pull(" + child + "): left", 4 - want[child], x.has(7));
            s.due("pull(" + child + "): on the SHELF", 1 + want[child], x.has(6));
            s.due("pull(" + child + "): KEPT", want[child], x.has(9));
            s.due("pull(" + child + "): an ACT", 1, x.has(10));
            s.due("pull(" + child + "): the YEAR", 9, x.has(5));
        }
        StoneRaised twice = set(text, 5, stones);
        twice.pull(1);
        s.due("what came DOWN ahead of it is not counted again", 1, twice.pull(0));
        s.due("the third time", 1, twice.pull(3));
        Says terms = Says.terms("II", "a stone BUILT IN is PULLED: it, and all above it in its column, come onto the SHELF, then all that does "
            + "not HOLD FALLS, as above;");
        StoneRaised half = set(text, 5, stones);
        half.pull(3);
        int[] row = {3, 0, 1, 2};
        for (int k = 0; k < 4; k++) {
            terms.due("the " + k + ". to come", row[k], half.kept(k, 1));
        }
        StoneRaised bears = set(text, 5, lies(16, 0, 0, 0), lies(9, 0, 0, 1), lies(9, 0, 0, 2), lies(9, 0, 1, 0), off(9));
        terms.due("half of 16 HOLDS", 1, bears.pull(3));
    }

    private static void pullRefused() {
        Says s = Says.promise(26, "NONE, refused (3), when it is not BUILT IN, or there is none such.");
        StoneRaised x = Scene.lively();
        int shelf = -1;
        for (int child = 0; child < 3; child++) {
            shelf = x.stone(child, 1) == 2 ? child : shelf;
        }
        s.due("one lies on the SHELF", true, shelf >= 0);
        for (int child : new int[] {shelf, 3, 8, -1, Integer.MAX_VALUE, Integer.MIN_VALUE}) {
            s.due("pull(" + child + ")", -1, Scene.lively().pull(child));
            Scene.refused(s, "pull(" + child + ")", 3, y -> y.pull(child));
        }
        StoneRaised y = Check.with(Scene.HOME + Scene.children(1) + "raised 1 to 2;wall w wide 1 high 1;");
        s.due("not RAISED yet", -1, y.pull(0));
        y.years(1);
        s.due("RAISED", -1, y.pull(0));
        y.years(1);
        s.due("BUILT IN", 1, y.pull(0));
        s.due("PULLED already", -1, y.pull(0));
        s.due("refused", 3, y.status(3));
    }

    private static void peace() {
        Says s = Says.promise(27, "A FEUD is ended: true;");
        String nine = "feud a b;feud a c;feud a d;feud a e;feud b c;feud b d;feud b e;feud c d;feud c e;feud d e;";
        StoneRaised x = Check.with(Scene.HOME + Scene.children(5) + nine);
        for (int feud = 0; feud < 10; feud++) {
            s.due("peace(" + feud + ")", true, x.peace(feud));
            s.due("not ended", 9 - feud, x.has(4));
            s.due("as told", 10, x.has(3));
            s.due("ACTS", feud + 1, x.has(10));
        }
        StoneRaised y = Check.with(Scene.HOME + Scene.children(5) + nine);
        y.peace(9);
        s.due("the last one alone: d", 7, y.child(3, 3));
        s.due("the last one alone: e", 7, y.child(4, 3));
    }

    private static void peaceRefused() {
        Says s = Says.promise(27, "false, refused (3), when it was, or there is none such.");
        for (int feud : new int[] {1, 2, 9, 10, 31, 32, 33, -1, -31, Integer.MAX_VALUE, Integer.MIN_VALUE}) {
            s.due("peace(" + feud + ")", false, Scene.lively().peace(feud));
            Scene.refused(s, "peace(" + feud + ")", 3, x -> x.peace(feud));
        }
        StoneRaised x = Scene.lively();
        s.due("the other one", true, x.peace(0));
        s.due("it was ended", false, x.peace(0));
        x.undo();
        s.due("once more behind undo()", true, x.peace(0));
    }

    private static void undo() {
        Says s = Says.promise(28, "The latest ACT is undone: all is as it was ahead of it (but the seed): true;");
        StoneRaised x = Check.with(Scene.TOWN);
        x.chance(3);
        int seed = x.has(11);
        x.chance(2);
        int then = x.has(11);
        s.due("undone", true, x.undo());
        s.due("the YEAR", 3, x.has(5));
        s.due("the seed stays", then, x.has(11));
        s.due("it was another", true, seed != then);
        s.due("undone", true, x.undo());
        s.due("the YEAR", 0, x.has(5));
        x.seed(9);
        x.years(1);
        x.seed(10);
        x.undo();
        s.due("a seed is no ACT", 10, x.has(11));
        s.due("the YEAR", 0, x.has(5));
    }

    private static void undoEachAct() {
        Says s = Says.terms("II", "ACTS: YEARS go by, by the seed; a CHILD goes to another HOME; a stone BUILT IN is PULLED: it, and all above "
            + "it in its column, come onto the SHELF, then all that does not HOLD FALLS, as above; a FEUD is ended.");
        StoneRaised asked = Scene.lively();
        int built = asked.stone(1, 1) == 3 ? 1 : asked.stone(2, 1) == 3 ? 2 : 0;
        s.due("one is BUILT IN", 3, asked.stone(built, 1));
        undone(s, "years(1)", x -> x.years(1));
        undone(s, "years(100)", x -> x.years(100));
        undone(s, "chance(1)", x -> x.chance(1));
        undone(s, "chance(100)", x -> x.chance(100));
        undone(s, "go()", x -> x.go(0, 1 - x.child(0, 0)));
        undone(s, "pull()", x -> x.pull(built));
        undone(s, "peace(0)", x -> x.peace(0));
        undone(s, "two ACTS", x -> {
            x.years(7);
            x.go(2, 1 - x.child(2, 0));
            x.undo();
        });
    }

    /** Stones at the first and the last place of all, on the shelf, raised and not yet: an ACT undone leaves each. */
    private static void undoPlaces() {
        Says s = Says.promise(28, "all is as it was ahead of it (but the seed)");
        String text = "home hut talk 5 warm 0;home ox talk 9 warm 3;" + Scene.children(6) + "child g of ox born 8;child h of ox born 9;"
            + "feud a b;feud c d;wall w wide 4 high 4;wall v wide 1 high 1;wall u wide 1 high 1;wall t wide 4 high 4;raised 1 to 2;"
            + "weighs 1;frost 60;bites 3;";
        int[] row = {0, 9, 0, 0, 30, 1, 0, 0, 0, 0, 20, 4, 3, 0, 1, 0, 20, 4, 3, 1, 1, 0, 20, 4, 3, 2, 1, 0, 20, 4, 3, 3, 0, 3, 231, 0, 0, 0,
            1, 0, 7, 0, 0, 0, 0, 0, 0, 0, 0, 0, 1, 0};
        byte[] image = Check.summed(row);
        for (int which = 0; which < 13; which++) {
            StoneRaised x = Check.with(text);
            s.due("on", true, Check.on(x, image));
            if (which < 8) {
                x.go(which, 1 - x.child(which, 0));
            } else if (which < 12) {
                x.pull(which - 8);
            } else {
                x.chance(30);
            }
            s.due(which + ": an ACT", 1, x.has(10));
            s.due(which + ": something is another", false, java.util.Arrays.equals(image, Check.imageOf(x)));
            s.due(which + ": undone", true, x.undo());
            s.due(which + ": all is as it was", true, java.util.Arrays.equals(image, Check.imageOf(x)));
            s.due(which + ": at the first place", 0, x.at(0, 0, 0));
            s.due(which + ": at the last place", 4, x.at(3, 3, 3));
            s.due(which + ": columns", 4, x.wall(3, 13));
            s.due(which + ": nothing is KEPT", 0, x.has(9));
        }
    }

    private static void undone(Says s, String act, Consumer<StoneRaised> made) {
        StoneRaised x = Scene.lively();
        int acts = x.has(10);
        made.accept(x);
        s.due(act + " is an ACT", acts + 1, x.has(10));
        s.due(act + ": undo()", true, x.undo());
        Map<String, Integer> want = Scene.all(Scene.lively());
        want.put("has(11)", x.has(11));
        Scene.alike(s, act + " undone", want, Scene.all(x));
    }

    private static void undoRefused() {
        Says s = Says.promise(28, "false, refused (4), when none can be.");
        s.due("a new object", false, new StoneRaised().undo());
        StoneRaised without = emptied();
        StoneRaised with = emptied();
        s.due("none is left", false, with.undo());
        Map<String, Integer> want = Scene.all(without);
        want.merge("status(4)", 1, Integer::sum);
        Scene.alike(s, "refused", want, Scene.all(with));
        StoneRaised town = Scene.lively();
        town.end(0);
        Check.town(town, Scene.TOWN);
        s.due("behind a TOWN", false, town.undo());
        StoneRaised image = Scene.lively();
        image.end(0);
        s.due("on", true, Check.on(image, Check.imageOf(image)));
        s.due("behind on()", false, image.undo());
    }

    /** A lively object all of whose ACTS are undone. */
    private static StoneRaised emptied() {
        StoneRaised x = Scene.lively();
        for (int acts = x.has(10); acts > 0; acts--) {
            x.undo();
        }
        Check.due("no ACT is left", 0, x.has(10));
        return x;
    }

    private static void lastTwenty() {
        Says s = Says.terms("II", "The last 20 can be undone.");
        for (int acts = 19; acts <= 43; acts += 2) {
            StoneRaised x = new StoneRaised();
            for (int k = 0; k < acts; k++) {
                x.years(1);
                s.due("ACTS behind " + (k + 1), Math.min(20, k + 1), x.has(10));
            }
            int can = Math.min(20, acts);
            for (int k = 1; k <= can; k++) {
                s.due(k + " of " + acts, true, x.undo());
                s.due("the YEAR", acts - k, x.has(5));
                s.due("left", can - k, x.has(10));
            }
            s.due("no more of " + acts, false, x.undo());
            s.due("the YEAR", acts - can, x.has(5));
        }
        StoneRaised y = new StoneRaised();
        for (int k = 0; k < 25; k++) {
            y.years(1);
        }
        y.undo();
        y.undo();
        y.years(5);
        s.due("19", 19, y.has(10));
        for (int k = 0; k < 19; k++) {
            s.due("undone", true, y.undo());
        }
        s.due("the first ones are not", 5, y.has(5));
        s.due("no more", false, y.undo());
    }

    private static void refusedIsNoAct() {
        Says s = Says.promise(6, "10 ACTS that can be undone");
        StoneRaised x = new StoneRaised();
        for (int k = 0; k < 20; k++) {
            x.years(1);
        }
        x.years(0);
        x.chance(101);
        x.go(0, 0);
        x.pull(0);
        x.peace(0);
        x.seed(-1);
        x.seed(5);
        s.due("20 still", 20, x.has(10));
        for (int k = 0; k < 20; k++) {
            x.undo();
        }
        s.due("all of them are undone", 0, x.has(5));
    }

    private static void seed() {
        Says s = Says.promise(29, "The seed: true; false, refused (5), when it is below 0.");
        StoneRaised x = new StoneRaised();
        for (int seed : new int[] {0, 1, 2, Integer.MAX_VALUE}) {
            s.due("seed(" + seed + ")", true, x.seed(seed));
            s.due("the seed", seed, x.has(11));
        }
        s.due("not refused", 0, x.status(5));
        for (int seed : new int[] {-1, Integer.MIN_VALUE}) {
            s.due("seed(" + seed + ")", false, x.seed(seed));
            s.due("the seed stays", Integer.MAX_VALUE, x.has(11));
            Scene.refused(s, "seed(" + seed + ")", 5, y -> y.seed(seed));
        }
        s.due("refused", 2, x.status(5));
    }

    private static void kept() {
        Says s = Says.promise(30, "Of what is told as KEPT, the k-th from the oldest on: 0 YEAR, 1 CHILD, 2 WALL, 3 whether it was BUILT IN.");
        StoneRaised x = Scene.set(Scene.HOME + Scene.children(8) + "raised 1 to 2;weighs 0;wall w wide 1 high 1;wall v wide 1 high 1;"
            + "wall u wide 1 high 1;wall t wide 4 high 4;", 997, off(1), off(1), off(1), off(1), off(1), off(1), off(1), off(1));
        x.years(1);
        x.pull(7);
        x.years(1);
        int[][] want = {{998, 0, 0, 1}, {998, 1, 1, 1}, {998, 2, 2, 1}, {998, 3, 3, 1}, {998, 4, 3, 1}, {998, 5, 3, 1}, {998, 6, 3, 1},
            {998, 7, 3, 1}, {998, 7, 3, 0}, {999, 7, 3, 1}};
        s.due("how many", want.length, x.has(9));
        for (int k = 0; k < want.length; k++) {
            for (int what = 0; what < 4; what++) {
                s.due("kept(" + k + ", " + what + ")", want[k][what], x.kept(k, what));
            }
        }
        Says none = Says.promise(30, "NONE when there is none such, or for others.");
        none.due("kept(10, 0)", -1, x.kept(10, 0));
        none.due("kept(0, 4)", -1, x.kept(0, 4));
        none.due("nothing is KEPT", -1, new StoneRaised().kept(0, 0));
        for (int far : FAR) {
            none.due("k " + far, -1, x.kept(far, 0));
            none.due("what " + far, -1, x.kept(0, far));
        }
    }

    /** A stone goes in and out by turns, so that the k-th KEPT is of YEAR 10 + k / 2. */
    private static StoneRaised inAndOut(int times) {
        StoneRaised x = set("wall w wide 1 high 1;", 1, off(1));
        for (int k = 0; k < times; k++) {
            if (k % 2 == 0) {
                x.years(1);
            } else {
                x.pull(0);
            }
        }
        return x;
    }

    private static void keptSixty() {
        Says s = Says.terms("II", "KEPT is each stone that was BUILT IN, each that FELL: YEAR (after it was one more), CHILD, WALL, 1 if it was "
            + "BUILT IN, else 0; those that FALL, or come down by being PULLED, at once from below on (the last 60 are told).");
        for (int times : new int[] {1, 59, 60, 61, 62, 121}) {
            StoneRaised x = inAndOut(times);
            int told = Math.min(60, times);
            s.due(times + ": told", told, x.has(9));
            s.due(times + ": one more", -1, x.kept(told, 0));
            for (int k = 0; k < told; k++) {
                int first = times - told + k;
                s.due(times + ": YEAR of " + k, 10 + first / 2, x.kept(k, 0));
                s.due(times + ": BUILT IN or not, " + k, 1 - first % 2, x.kept(k, 3));
            }
        }
        StoneRaised six = set("weighs 0;wall w wide 1 high 4;", 4, lies(1, 0, 0, 0), lies(1, 0, 0, 1), lies(1, 0, 0, 2), lies(1, 0, 0, 3));
        six.pull(1);
        for (int k = 0; k < 3; k++) {
            s.due("PULLED, from below on: " + k, k + 1, six.kept(k, 1));
            s.due("PULLED, in the YEAR: " + k, 9, six.kept(k, 0));
        }
    }

    private static void keptBack() {
        Says s = Says.promise(28, "all is as it was ahead of it (but the seed)");
        StoneRaised x = inAndOut(75);
        StoneRaised y = inAndOut(75);
        y.pull(0);
        y.years(3);
        y.pull(0);
        s.due("the oldest are gone", true, x.kept(0, 0) != y.kept(0, 0));
        for (int k = 0; k < 3; k++) {
            y.undo();
        }
        for (int k = 0; k < 60; k++) {
            for (int what = 0; what < 4; what++) {
                s.due("kept(" + k + ", " + what + ")", x.kept(k, what), y.kept(k, what));
            }
        }
        s.due("sixty", 60, y.has(9));
    }
}
