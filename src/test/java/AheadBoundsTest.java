/** The boundary sentences of promises 13 to 19 and 22, and of the Terms' part III that they rest on. */
public final class AheadBoundsTest {
    private static final int[] FAR = {Integer.MIN_VALUE, -1, Integer.MAX_VALUE};

    public static void main(String[] args) {
        later();
        laterNone();
        toYear999();
        built();
        builtNone();
        down();
        props();
        propped();
        propsFewest();
        strongest();
        strongestNone();
        order();
        orderRows();
        reconcile();
        reconcileNone();
        pulling();
        pullingStuck();
        askingLeavesAll();
        Check.finish();
    }

    private static StoneRaised set(String text, int children, int[]... stones) {
        return Scene.set(Scene.HOME + Scene.children(children) + "raised 1 to 2;" + text, 9, stones);
    }

    private static int[] lies(int strong, int wall, int column, int course) {
        return Scene.lies(strong, wall, column, course);
    }

    private static int[] off(int strong) {
        return Scene.off(strong);
    }

    private static StoneRaised inYear(int year, String text) {
        return Scene.set(Scene.HOME + Scene.children(2) + "raised 1 to 2;" + text, year, off(1), off(1));
    }

    private static void later() {
        Says s = Says.promise(13, "Behind n YEARS AHEAD (0 .. 60): 0 whose stones are BUILT IN, as bits, 1 on the SHELF, as bits, "
            + "2 how many FELL in them, 3 how strong all are together.");
        StoneRaised x = Scene.set(Scene.HOME + Scene.children(3) + "child d of hut born 8;child e of hut born 67;raised 1 to 2;"
            + "frost 100;weighs 4;wall w wide 1 high 2;", 9, lies(3, 0, 0, 0), lies(9, 0, 0, 1), off(2), off(0), off(0));
        // a falls with b, and c lies there; a YEAR on c does not bear a; d, 5 strong, does not come in either.
        int[][] want = {{3, 4, 0, 14}, {4, 11, 2, 19}, {4, 11, 2, 19}};
        for (int n = 0; n < want.length; n++) {
            for (int what = 0; what < 4; what++) {
                s.due("later(" + n + ", " + what + ")", want[n][what], x.later(n, what));
            }
        }
        s.due("e is RAISED in the 60th", 24, x.later(60, 3));
        s.due("e is not DONE in the 59th", 11, x.later(59, 1));
        s.due("e is DONE in the 60th", 27, x.later(60, 1));
        s.due("e is not RAISED to the end in the 59th", 19, x.later(59, 3));
        StoneRaised feud = set("weighs 0;wall w wide 2 high 1;feud a b;feud a c;", 3, lies(1, 0, 0, 0), off(1), off(1));
        s.due("a FEUD lasts ahead", 1, feud.later(9, 0));
        feud.peace(1);
        s.due("an ended one is ended ahead", 5, feud.later(9, 0));
    }

    private static void laterNone() {
        Says s = Says.promise(13, "NONE when n can't be, or for others.");
        StoneRaised x = inYear(9, "");
        s.due("later(0, 0)", 0, x.later(0, 0));
        s.due("later(60, 1)", 3, x.later(60, 1));
        s.due("later(61, 1)", -1, x.later(61, 1));
        s.due("later(0, 4)", -1, x.later(0, 4));
        for (int far : FAR) {
            s.due("n " + far, -1, x.later(far, 0));
            s.due("what " + far, -1, x.later(0, far));
        }
    }

    private static void toYear999() {
        Says s = Says.terms("III", "AHEAD are YEARS as they come from now on without DRAWS (60 at most, not beyond YEAR 999).");
        StoneRaised x = inYear(939, "frost 100;wall w wide 1 high 1;");
        s.due("60 from 939 on", 1, x.later(60, 0));
        s.due("61 never", -1, x.later(61, 0));
        StoneRaised y = inYear(940, "wall w wide 1 high 1;");
        s.due("59 from 940 on", 1, y.later(59, 0));
        s.due("60 from 940 on", -1, y.later(60, 0));
        StoneRaised z = inYear(999, "wall w wide 1 high 1;");
        s.due("0 from 999 on", 3, z.later(0, 1));
        s.due("1 from 999 on", -1, z.later(1, 1));
        s.due("no DRAW", 1, x.has(11));
    }

    private static void built() {
        Says s = Says.promise(14, "Behind how many YEARS AHEAD a stone is BUILT IN first (0: now);");
        StoneRaised x = Scene.set(Scene.HOME + Scene.children(2) + "child c of hut born 66;child d of hut born 67;child e of hut "
            + "born 68;raised 1 to 2;weighs 0;wall w wide 4 high 2;", 9, lies(1, 0, 0, 0), off(1), off(0), off(0), off(0));
        int[] want = {0, 1, 59, 60, -1};
        for (int child = 0; child < want.length; child++) {
            s.due("built(" + child + ")", want[child], x.built(child));
        }
        StoneRaised weak = set("weighs 4;wall w wide 1 high 2;", 3, lies(3, 0, 0, 0), lies(9, 0, 0, 1), off(3));
        s.due("what falls in the first YEAR is BUILT IN now", 0, weak.built(0));
        s.due("in its place", 1, weak.built(2));
        StoneRaised frost = set("frost 100;bites 1;weighs 4;wall w wide 1 high 2;", 2, lies(4, 0, 0, 0), off(1));
        s.due("without DRAWS no frost bites ahead", 1, frost.built(1));
    }

    private static void builtNone() {
        Says s = Says.promise(14, "NONE when it is not, or there is none such.");
        StoneRaised x = inYear(9, "wall w wide 1 high 1;may not all;");
        s.due("it may not", -1, x.built(0));
        s.due("CHILD 2", -1, x.built(2));
        for (int far : FAR) {
            s.due("CHILD " + far, -1, x.built(far));
        }
        s.due("in YEAR 69, behind 60", 60, inYear(9, "wall w wide 1 high 1;may year=69;").built(0));
        s.due("in YEAR 70, behind 61", -1, inYear(9, "wall w wide 1 high 1;may year=70;").built(0));
        s.due("in YEAR 999, behind 60", 60, inYear(939, "wall w wide 1 high 1;may year=999;").built(0));
        s.due("in YEAR 999, behind 1", 1, inYear(998, "wall w wide 1 high 1;").built(0));
        s.due("beyond YEAR 999", -1, inYear(999, "wall w wide 1 high 1;").built(0));
        s.due("the YEAR is not 999 once more", -1, inYear(998, "wall w wide 1 high 1;may all;weighs 99;").built(1));
    }

    private static void down() {
        Says s = Says.promise(15, "Whose stones come DOWN with one, as bits (its own, too);");
        Says terms = Says.terms("III", "DOWN with a stone come all stones that are on the SHELF behind its being PULLED, and were BUILT IN "
            + "ahead of it.");
        String text = "weighs 4;twins a d;wall w wide 2 high 3;wall v wide 1 high 2;";
        StoneRaised x = set(text, 6, lies(15, 0, 0, 0), lies(9, 0, 0, 1), lies(9, 0, 0, 2), lies(9, 0, 1, 0), off(9), lies(9, 1, 0, 0));
        int[] want = {7, 6, 4, 15, -1, 32};
        for (int child = 0; child < want.length; child++) {
            s.due("down(" + child + ")", want[child], x.down(child));
        }
        terms.due("what lay on the SHELF is none of them", 0, x.down(0) & 16);
        StoneRaised half = set(text, 6, lies(16, 0, 0, 0), lies(9, 0, 0, 1), lies(9, 0, 0, 2), lies(9, 0, 1, 0), off(9), off(9));
        terms.due("half of 16 bears 8", 8, half.down(3));
        StoneRaised weak = set(text, 6, lies(15, 0, 0, 0), off(9), off(9), lies(9, 0, 1, 0), lies(3, 1, 0, 0), lies(9, 1, 0, 1));
        terms.due("what does not HOLD in another WALL comes, too", 49, weak.down(0));
        Says none = Says.promise(15, "NONE when it is not BUILT IN, or there is none such.");
        none.due("on the SHELF", -1, x.down(4));
        none.due("CHILD 6", -1, x.down(6));
        for (int far : FAR) {
            none.due("CHILD " + far, -1, x.down(far));
        }
    }

    private static void props() {
        Says s = Says.promise(16, "PROPS of a WALL: CHILDREN as bits (0: none FALLS anyway);");
        Says frost = Says.terms("III", "that, PROPPED, leave all stones of it HOLDING behind a frost now (nothing FALLING so far):");
        String text = "weighs 4;bites 2;frost 0;wall w wide 1 high 4;wall v wide 1 high 4;";
        StoneRaised sound = set(text, 4, lies(14, 0, 0, 0), lies(10, 0, 0, 1), lies(6, 0, 0, 2), lies(0, 0, 0, 3));
        s.due("all bear a frost, just so", 0, sound.props(0));
        s.due("a WALL without stones", 0, sound.props(1));
        frost.due("13, less 2, bears not three", 1,
            set(text, 4, lies(13, 0, 0, 0), lies(10, 0, 0, 1), lies(6, 0, 0, 2), lies(0, 0, 0, 3)).props(0));
        frost.due("0 at least", 0, set("weighs 0;bites 9;wall w wide 1 high 2;", 2, lies(3, 0, 0, 0), lies(3, 0, 0, 1)).props(0));
        frost.due("the other WALL is not asked", 0, set(text, 3, lies(9, 0, 0, 0), lies(3, 1, 0, 0), lies(9, 1, 0, 1)).props(0));
        frost.due("nor the next one behind four columns", 0, set("weighs 4;bites 2;wall w wide 4 high 2;wall v wide 4 high 2;", 3,
            lies(9, 0, 3, 0), lies(3, 1, 0, 0), lies(9, 1, 0, 1)).props(0));
        frost.due("the second WALL", 2, set(text, 3, lies(9, 0, 0, 0), lies(3, 1, 0, 0), lies(9, 1, 0, 1)).props(1));
        // c would fall from d's load in a frost; its twin a still counts as lying there with it.
        String twins = "weighs 4;bites 2;twins a d;wall w wide 2 high 2;";
        frost.due("a twin that will fall still lies there", 4,
            set(twins, 4, lies(6, 0, 0, 0), lies(9, 0, 0, 1), lies(5, 0, 1, 0), lies(9, 0, 1, 1)).props(0));
        frost.due("half of 7", 1, set("weighs 4;bites 2;twins a c;wall w wide 1 high 2;", 3, lies(9, 0, 0, 0), lies(9, 0, 0, 1), off(9)).props(0));
        frost.due("half of 8", 0, set("weighs 4;bites 2;twins a c;wall w wide 1 high 2;", 3, lies(10, 0, 0, 0), lies(9, 0, 0, 1), off(9)).props(0));
        Says none = Says.promise(16, "NONE when there is none such.");
        none.due("WALL 2", -1, sound.props(2));
        for (int far : FAR) {
            none.due("WALL " + far, -1, sound.props(far));
        }
    }

    private static void propped() {
        Says s = Says.terms("III", "PROPPED a stone HOLDS anyway, and neither it nor what lies above it counts for the LOAD of those below it.");
        String text = "weighs 4;bites 2;wall w wide 1 high 4;";
        s.due("it HOLDS anyway", 1, set(text, 3, lies(0, 0, 0, 0), lies(6, 0, 0, 1), lies(0, 0, 0, 2)).props(0));
        s.due("neither it nor what is above counts", 2, set(text, 3, lies(2, 0, 0, 0), lies(0, 0, 0, 1), lies(0, 0, 0, 2)).props(0));
        s.due("what lies between counts", 4, set(text, 4, lies(6, 0, 0, 0), lies(2, 0, 0, 1), lies(0, 0, 0, 2), lies(0, 0, 0, 3)).props(0));
        s.due("it would be too much between", 5, set(text, 4, lies(5, 0, 0, 0), lies(2, 0, 0, 1), lies(0, 0, 0, 2), lies(0, 0, 0, 3)).props(0));
    }

    private static void propsFewest() {
        Says s = Says.terms("III", "PROPS of a WALL are the fewest of its stones (of like ones the least bits of CHILDREN)");
        String text = "weighs 4;bites 2;wall w wide 4 high 2;";
        // c below a, b: a alone or b alone would do.
        s.due("of like ones the least", 1, set("weighs 4;bites 2;wall w wide 1 high 3;", 3, lies(9, 0, 0, 1), lies(9, 0, 0, 2), lies(9, 0, 0, 0)).props(0));
        s.due("the least bits, not the lowest stone", 1, set(text, 2, lies(9, 0, 0, 1), lies(0, 0, 0, 0)).props(0));
        // From below c, d, a, b: d alone does, and so would a and c, which are less bits.
        s.due("one rather than two of less bits", 8,
            set("weighs 4;bites 2;wall w wide 1 high 4;", 4, lies(6, 0, 0, 2), lies(0, 0, 0, 3), lies(0, 0, 0, 0), lies(2, 0, 0, 1)).props(0));
        s.due("four columns, four PROPS", 15, set(text, 8, lies(0, 0, 0, 0), lies(0, 0, 1, 0), lies(0, 0, 2, 0), lies(0, 0, 3, 0),
            lies(0, 0, 0, 1), lies(0, 0, 1, 1), lies(0, 0, 2, 1), lies(0, 0, 3, 1)).props(0));
    }

    private static void strongest() {
        Says s = Says.promise(17, "STRONGEST of a CHILD: the HOME (what 0), how strong (1).");
        Says terms = Says.terms("III", "STRONGEST is the HOME by which a stone, not DONE yet, is strongest when DONE, were he there from now "
            + "on; of like ones the first.");
        StoneRaised x = Check.with("home p talk 1 warm 9;home q talk 4 warm 5;home r talk 9 warm 1;home t talk 9 warm 1;"
            + "child a of p born 2;raised 1 to 3;gains if(age=1,talk,warm);");
        s.due("of like ones the first", 0, x.strongest(0, 0));
        s.due("1 and 9", 10, x.strongest(0, 1));
        x.years(3);
        s.due("ahead of the first YEAR", 10, x.strongest(0, 1));
        x.go(0, 3);
        x.years(1);
        terms.due("9 so far, the last YEAR: p", 0, x.strongest(0, 0));
        terms.due("9 and 9", 18, x.strongest(0, 1));
        x.years(1);
        terms.due("DONE", -1, x.strongest(0, 0));
        StoneRaised top = Check.with("home p talk 1 warm 2;home q talk 3 warm 4;home r talk 5 warm 1;child a of r born 0;"
            + "raised 1 to 30;gains 30*talk;");
        terms.due("999 at most: the first that comes so far", 1, top.strongest(0, 0));
        terms.due("999", 999, top.strongest(0, 1));
        StoneRaised last = Check.with("home p talk 1 warm 2;home q talk 3 warm 4;child a of p born 0;");
        terms.due("the last one", 1, last.strongest(0, 0));
        terms.due("14 YEARS of 3", 42, last.strongest(0, 1));
        terms.due("gains by the YEAR in which it is", 7,
            Check.with("home p talk 3 warm 2;child a of p born 3;raised 4 to 5;gains year;").strongest(0, 1));
    }

    private static void strongestNone() {
        Says s = Says.promise(17, "NONE when it is DONE, when there is none such, or for others.");
        StoneRaised x = Check.with(Scene.HOME + Scene.children(1) + "raised 1 to 2;");
        s.due("not born to be RAISED yet", 5, x.strongest(0, 1));
        s.due("what 2", -1, x.strongest(0, 2));
        s.due("CHILD 1", -1, x.strongest(1, 0));
        for (int far : FAR) {
            s.due("CHILD " + far, -1, x.strongest(far, 0));
            s.due("what " + far, -1, x.strongest(0, far));
        }
        x.years(1);
        s.due("the last YEAR", 0, x.strongest(0, 0));
        x.years(1);
        s.due("DONE, on the SHELF", -1, x.strongest(0, 0));
        s.due("DONE, on the SHELF", -1, x.strongest(0, 1));
        StoneRaised y = set("wall w wide 1 high 1;", 1, lies(1, 0, 0, 0));
        s.due("DONE, BUILT IN", -1, y.strongest(0, 0));
    }

    private static void order() {
        Says s = Says.promise(18, "ORDER: how many are BUILT IN (k NONE), the CHILD at its k-th place.");
        StoneRaised x = set("weighs 4;wall w wide 1 high 4;", 4, off(0), off(4), off(8), off(3));
        int[] row = {3, 2, 1, 0, 3};
        for (int k = -1; k < 4; k++) {
            s.due("order(" + k + ")", row[k + 1], x.order(k));
        }
        Says none = Says.promise(18, "NONE when more than 6 stones lie on the SHELF, or there is none such.");
        none.due("order(4)", -1, x.order(4));
        none.due("order(-2)", -1, x.order(-2));
        none.due("order(MIN)", -1, x.order(Integer.MIN_VALUE));
        none.due("order(MAX)", -1, x.order(Integer.MAX_VALUE));
        String wall = "weighs 0;wall w wide 4 high 2;";
        int[][] six = {off(1), off(1), off(1), off(1), off(1), off(1), lies(1, 0, 0, 0)};
        int[][] seven = {off(1), off(1), off(1), off(1), off(1), off(1), off(1)};
        StoneRaised full = set(wall, 7, six);
        none.due("6 on the SHELF", 6, full.order(-1));
        none.due("its 6th", 5, full.order(5));
        none.due("no 7th", -1, full.order(6));
        StoneRaised over = set(wall, 7, seven);
        none.due("7 on the SHELF", -1, over.order(-1));
        none.due("7 on the SHELF", -1, over.order(0));
        StoneRaised empty = set(wall, 1, lies(1, 0, 0, 0));
        none.due("none on the SHELF: how many", 0, empty.order(-1));
        none.due("none on the SHELF: the first", -1, empty.order(0));
    }

    private static void orderRows() {
        Says s = Says.terms("III", "ORDER is the row of the stones on the SHELF, by which most are BUILT IN, were they built in so now, one "
            + "after the other, each as above; of like ones the first by CHILDREN.");
        row(s, "one place: the first by CHILDREN", set("wall w wide 1 high 1;", 3, off(1), off(1), off(1)), 1, 0, 1, 2);
        row(s, "no place", set("", 2, off(1), off(1)), 0, 0, 1);
        row(s, "the stronger one below", set("weighs 4;wall w wide 1 high 2;", 2, off(3), off(4)), 2, 1, 0);
        row(s, "3 does not bear one", set("weighs 4;wall w wide 1 high 2;", 2, off(3), off(3)), 1, 0, 1);
        row(s, "a FEUD: the other one between", set("feud a b;wall w wide 3 high 1;", 3, off(1), off(1), off(1)), 3, 0, 2, 1);
        row(s, "another one lies between", set("feud a b;wall w wide 3 high 1;", 3, off(1), off(1), lies(1, 0, 1, 0)), 2, 0, 1);
        row(s, "may is asked of the YEAR now", set("wall w wide 1 high 1;may year=9;", 1, off(1)), 1, 0);
        row(s, "not of the next one", set("wall w wide 1 high 1;may year=10;", 1, off(1)), 0, 0);
        StoneRaised fell = set("weighs 4;wall w wide 1 high 2;", 2, lies(9, 0, 0, 0), lies(9, 0, 0, 1));
        fell.pull(0);
        row(s, "what was PULLED just now", fell, 2, 0, 1);
    }

    private static void row(Says s, String when, StoneRaised x, int most, int... row) {
        s.due(when + ": how many", most, x.order(-1));
        for (int k = 0; k < row.length; k++) {
            s.due(when + ": order(" + k + ")", row[k], x.order(k));
        }
        s.due(when + ": no more", -1, x.order(row.length));
    }

    private static void reconcile() {
        Says s = Says.promise(19, "RECONCILED, n YEARS AHEAD (1 .. 40): the FEUD (what 0), how many more (1).");
        Says terms = Says.terms("III", "RECONCILED is the FEUD by whose end most stones are BUILT IN n YEARS AHEAD, if more than without; of "
            + "like ones the first.");
        String wall = "weighs 0;wall w wide 2 high 1;";
        StoneRaised one = set(wall + "feud a b;", 2, lies(1, 0, 0, 0), off(1));
        s.due("n 1", 0, one.reconcile(1, 0));
        s.due("n 1: one more", 1, one.reconcile(1, 1));
        s.due("n 40", 0, one.reconcile(40, 0));
        s.due("n 40: one more", 1, one.reconcile(40, 1));
        StoneRaised like = set(wall + "feud a c;feud a b;", 3, lies(1, 0, 0, 0), off(1), off(1));
        terms.due("of like ones the first", 0, like.reconcile(1, 0));
        terms.due("one more", 1, like.reconcile(1, 1));
        StoneRaised most = set("weighs 0;wall w wide 2 high 1;wall v wide 2 high 1;feud a c;feud a b;feud d b;", 4, lies(1, 0, 0, 0), off(1),
            lies(1, 1, 0, 0), lies(1, 1, 1, 0));
        terms.due("not the first: that by which more come in", 1, most.reconcile(1, 0));
        StoneRaised same = set(wall + "feud a b;", 3, lies(1, 0, 0, 0), off(1), lies(1, 0, 1, 0));
        terms.due("no more than without", -1, same.reconcile(1, 0));
        terms.due("no more than without", -1, same.reconcile(1, 1));
        StoneRaised ended = set(wall + "feud a b;feud b c;", 2 + 1, lies(1, 0, 0, 0), off(1), off(1));
        ended.peace(0);
        terms.due("an ended one is none", -1, ended.reconcile(1, 0));
        StoneRaised other = set(wall + "feud a b;feud b c;", 2 + 1, lies(1, 0, 0, 0), off(1), off(1));
        s.due("c comes in without", -1, other.reconcile(1, 0));
        StoneRaised next = set("weighs 0;wall w wide 3 high 1;feud a b;feud c b;feud a c;", 3, lies(1, 0, 0, 0), off(1), lies(1, 0, 2, 0));
        terms.due("either FEUD alone keeps b off", -1, next.reconcile(1, 0));
        next.peace(1);
        terms.due("behind the end of one the end of the other", 0, next.reconcile(1, 0));
        StoneRaised first = set("weighs 0;wall w wide 3 high 1;feud a b;feud c b;feud a c;", 3, lies(1, 0, 0, 0), off(1), lies(1, 0, 2, 0));
        first.peace(0);
        terms.due("and the other way round", 1, first.reconcile(1, 0));
        terms.due("one more", 1, first.reconcile(1, 1));
    }

    private static void reconcileNone() {
        Says s = Says.promise(19, "NONE without, when n can't be, or for others.");
        String wall = "weighs 0;wall w wide 2 high 1;feud a b;";
        StoneRaised x = set(wall, 2, lies(1, 0, 0, 0), off(1));
        s.due("n 0", -1, x.reconcile(0, 0));
        s.due("n 41", -1, x.reconcile(41, 0));
        s.due("n 60", -1, x.reconcile(60, 1));
        s.due("what 2", -1, x.reconcile(1, 2));
        for (int far : FAR) {
            s.due("n " + far, -1, x.reconcile(far, 0));
            s.due("what " + far, -1, x.reconcile(1, far));
        }
        x.peace(0);
        s.due("no FEUD left", -1, x.reconcile(1, 0));
        s.due("no FEUD left", -1, x.reconcile(1, 1));
        s.due("no FEUD told", -1, inYear(9, "wall w wide 2 high 1;").reconcile(1, 0));
        String text = Scene.HOME + Scene.children(2) + "raised 1 to 2;" + wall;
        StoneRaised to999 = Scene.set(text, 959, lies(1, 0, 0, 0), off(1));
        s.due("40 from 959 on", 0, to999.reconcile(40, 0));
        StoneRaised beyond = Scene.set(text, 960, lies(1, 0, 0, 0), off(1));
        s.due("40 from 960 on", -1, beyond.reconcile(40, 0));
        s.due("39 from 960 on", 0, beyond.reconcile(39, 0));
        s.due("1 from 999 on", -1, Scene.set(text, 999, lies(1, 0, 0, 0), off(1)).reconcile(1, 0));
    }

    private static void pulling() {
        Says s = Says.promise(22, "PULLING a WALL: 1 if the first one WINS, 0 if not;");
        Says terms = Says.terms("III", "PULLING: two masons pull stones out of a WALL in turn, each any one that is the topmost of its column, "
            + "if all that are left in it HOLD then; who can't any more has lost.");
        int[][] places = {lies(99, 0, 0, 0), lies(99, 0, 0, 1), lies(99, 0, 1, 0), lies(99, 0, 1, 1), lies(99, 0, 2, 0), lies(99, 0, 3, 0),
            lies(99, 0, 2, 1), lies(99, 0, 3, 1)};
        for (int stones = 0; stones <= 8; stones++) {
            int[][] row = new int[8][];
            for (int k = 0; k < 8; k++) {
                row[k] = k < stones ? places[k] : off(1);
            }
            StoneRaised x = set("weighs 4;wall w wide 4 high 2;wall v wide 1 high 1;", 8, row);
            s.due(stones + " stones", stones % 2, x.pulling(0));
            s.due("a WALL without stones", 0, x.pulling(1));
        }
        String text = "weighs 4;wall w wide 1 high 3;wall v wide 1 high 2;";
        terms.due("the pull leaves what does not HOLD", 0, set(text, 3, lies(3, 0, 0, 0), lies(9, 0, 0, 1), lies(9, 0, 0, 2)).pulling(0));
        terms.due("the pull leaves all HOLDING, just so", 1, set(text, 3, lies(4, 0, 0, 0), lies(9, 0, 0, 1), lies(9, 0, 0, 2)).pulling(0));
        terms.due("another WALL is none of theirs", 1,
            set(text, 4, lies(9, 0, 0, 0), off(1), lies(3, 1, 0, 0), lies(9, 1, 0, 1)).pulling(0));
        String wide = "weighs 4;wall w wide 4 high 2;wall v wide 4 high 2;";
        terms.due("nor the next one behind four columns", 0, set(wide, 1, lies(9, 1, 0, 0)).pulling(0));
        StoneRaised fewer = set(wide, 3, lies(9, 0, 0, 0), lies(9, 0, 1, 0), lies(9, 1, 0, 0));
        fewer.later(9, 0);
        fewer.down(0);
        terms.due("what was asked ahead is no part of it", 0, fewer.pulling(0));
        fewer.pull(1);
        terms.due("what was PULLED is", 1, fewer.pulling(0));
        Says none = Says.promise(22, "NONE when there is none such.");
        StoneRaised y = set(text, 1, off(1));
        none.due("WALL 2", -1, y.pulling(2));
        for (int far : FAR) {
            none.due("WALL " + far, -1, y.pulling(far));
        }
    }

    private static void pullingStuck() {
        Says s = Says.terms("III", "The first one WINS, if he can do so whatever the other one does.");
        String text = "weighs 4;twins a e;twins c d;wall w wide 4 high 3;";
        // c pulled would halve d under e, e pulled would halve a under b and c: neither can be pulled.
        int[][] stuck = {lies(15, 0, 0, 0), lies(9, 0, 0, 1), lies(9, 0, 0, 2), lies(7, 0, 1, 0), lies(9, 0, 1, 1), off(1), off(1)};
        s.due("five stones, none can be pulled", 0, set(text, 7, stuck).pulling(0));
        int[][] one = stuck.clone();
        one[5] = lies(9, 0, 2, 0);
        s.due("one more that can", 1, set(text, 7, one).pulling(0));
        int[][] two = one.clone();
        two[6] = lies(9, 0, 3, 0);
        s.due("two more that can", 0, set(text, 7, two).pulling(0));
        int[][] bears = stuck.clone();
        bears[3] = lies(8, 0, 1, 0);
        s.due("half of 8 bears e, so c goes first", 1, set(text, 7, bears).pulling(0));
        // b pulled would halve c under d, d pulled would halve a under b.
        s.due("four stones, none can be pulled", 0, set("weighs 4;twins a d;twins b c;wall w wide 2 high 2;", 4, lies(7, 0, 0, 0),
            lies(9, 0, 0, 1), lies(7, 0, 1, 0), lies(9, 0, 1, 1)).pulling(0));
        s.due("and a fifth one that can", 1, set("weighs 4;twins a d;twins b c;wall w wide 3 high 2;", 5, lies(7, 0, 0, 0),
            lies(9, 0, 0, 1), lies(7, 0, 1, 0), lies(9, 0, 1, 1), lies(0, 0, 2, 0)).pulling(0));
    }

    /** What is asked ahead is lived through by no one. */
    private static void askingLeavesAll() {
        Says s = Says.terms("III", "AHEAD are YEARS as they come from now on without DRAWS");
        StoneRaised x = Scene.lively();
        for (int k = -1; k < 5; k++) {
            x.later(k + 1, 0);
            x.built(k);
            x.down(k);
            x.props(k);
            x.strongest(k, 0);
            x.order(k);
            x.reconcile(k, 0);
            x.pulling(k);
            x.homes(k);
        }
        Scene.alike(s, "asked", Scene.all(Scene.lively()), Scene.all(x));
    }
}
