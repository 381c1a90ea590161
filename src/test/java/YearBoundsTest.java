/** The boundary sentences of the Terms' part II: ages, loads, a YEAR's gains, frost, falls and building in, DRAWS. */
public final class YearBoundsTest {
    private static final int SHELF = 2;
    private static final int BUILT = 3;

    public static void main(String[] args) {
        atFirst();
        ages();
        raised();
        done();
        high();
        loads();
        bears();
        holds();
        gains();
        lastYear();
        frosts();
        frostsElsewhere();
        falls();
        fallsInOrder();
        fallenWait();
        byNumbers();
        firstWall();
        place();
        feuds();
        feudsFar();
        may();
        allHold();
        draws();
        drawOfHundred();
        Check.finish();
    }

    private static StoneRaised set(String text, int children, int[]... stones) {
        return Scene.set(Scene.HOME + Scene.children(children) + "raised 1 to 2;" + text, 9, stones);
    }

    private static int[] lies(int strong, int wall, int column, int course) {
        return Scene.lies(strong, wall, column, course);
    }

    private static int[] off(int strong) {
        return Scene.off(strong);
    }

    private static void atFirst() {
        Says s = Says.terms("II", "It is YEAR 0 at first; all stones have strength 0, none is done.");
        StoneRaised x = Check.with(Scene.HOME + Scene.children(1) + "child b of hut born 99;raised 1 to 2;");
        s.due("YEAR", 0, x.has(5));
        for (int child = 0; child < 2; child++) {
            s.due("strength of " + child, 0, x.stone(child, 0));
            s.due("not even RAISED: " + child, 0, x.stone(child, 1));
        }
        s.due("all together", 0, x.later(0, 3));
        s.due("none on the SHELF", 0, x.has(6));
    }

    private static void ages() {
        Says s = Says.terms("II", "AGE is the YEAR less the one in which he was born (below 0: not born).");
        StoneRaised x = Check.with(Scene.HOME + "child a of hut born 2;raised 1 to 2;gains 10*age+year;");
        int[] where = {0, 0, 0, 1, SHELF};
        int[] strong = {0, 0, 0, 0, 13};
        for (int year = 0; year < where.length; year++) {
            s.due("where in YEAR " + year, where[year], x.stone(0, 1));
            s.due("strength in YEAR " + year, strong[year], x.stone(0, 0));
            x.years(1);
        }
    }

    private static void raised() {
        Says s = Says.terms("II", "A stone is RAISED while AGE is from the first number of raised on, below the second one;");
        int[][] spans = {{1, 2}, {1, 30}, {29, 30}, {3, 5}};
        for (int[] span : spans) {
            StoneRaised x = Check.with(Scene.HOME + Scene.children(1) + "raised " + span[0] + " to " + span[1] + ";");
            for (int age = 0; age <= span[1] + 1; age++) {
                int raised = Math.max(0, Math.min(age, span[1]) - span[0]);
                int where = age < span[0] ? 0 : age < span[1] ? 1 : SHELF;
                s.due(span[0] + " to " + span[1] + ": where at AGE " + age, where, x.stone(0, 1));
                s.due(span[0] + " to " + span[1] + ": strength at AGE " + age, 5 * raised, x.stone(0, 0));
                x.years(1);
            }
        }
    }

    private static void done() {
        Says s = Says.terms("II", "it is DONE from the YEAR on in which AGE is the second one; DONE it lies on the SHELF, until it is "
            + "BUILT IN.");
        StoneRaised x = Check.with(Scene.HOME + Scene.children(1) + "raised 1 to 3;wall w wide 1 high 1;may year=5;");
        int[] where = {0, 1, 1, SHELF, SHELF, BUILT, BUILT};
        for (int year = 0; year < where.length; year++) {
            s.due("where in YEAR " + year, where[year], x.stone(0, 1));
            s.due("on the SHELF in YEAR " + year, where[year] == SHELF ? 1 : 0, x.has(6));
            s.due("BUILT IN in YEAR " + year, where[year] == BUILT ? 1 : 0, x.has(7));
            x.years(1);
        }
    }

    private static void high() {
        Says s = Says.terms("II", "A WALL has columns, 0 from the left on, each of stones one on the other, as many as high at most.");
        for (int high = 1; high <= 4; high++) {
            StoneRaised x = set("weighs 0;wall w wide 1 high " + high + ";", 5, off(1), off(1), off(1), off(1), off(1));
            s.due("high " + high, high, x.years(1));
            for (int course = 0; course < 5; course++) {
                s.due("high " + high + ", course " + course, course < high ? course : -1, x.at(0, 0, course));
            }
        }
        StoneRaised y = set("weighs 0;wall w wide 4 high 1;", 5, off(1), off(1), off(1), off(1), off(1));
        y.years(1);
        for (int column = 0; column < 5; column++) {
            s.due("column " + column, column < 4 ? column : -1, y.at(0, column, 0));
        }
    }

    private static void loads() {
        Says s = Says.terms("II", "LOAD of a stone BUILT IN is how many lie above it times weighs.");
        StoneRaised x = set("weighs 99;wall w wide 2 high 4;", 5, lies(9, 0, 1, 0), lies(9, 0, 1, 1), lies(9, 0, 1, 2),
            lies(9, 0, 1, 3), lies(9, 0, 0, 0));
        int[] want = {297, 198, 99, 0, 0};
        for (int child = 0; child < 5; child++) {
            s.due("of " + child, want[child], x.stone(child, 5));
        }
    }

    private static void bears() {
        Says s = Says.terms("II", "It BEARS as much as it is strong; half of that (floor), if he has a twin whose stone is not BUILT "
            + "IN into the same WALL.");
        String text = "twins a b;weighs 0;wall w wide 2 high 2;wall v wide 1 high 1;";
        int[][] halves = {{0, 0}, {1, 0}, {2, 1}, {9, 4}, {999, 499}};
        for (int[] half : halves) {
            int strong = half[0];
            s.due("no twin, " + strong, strong, set(text, 3, off(0), off(0), lies(strong, 0, 0, 0)).stone(2, 6));
            s.due("his twin's on the SHELF, " + strong, half[1], set(text, 3, lies(strong, 0, 0, 0), off(0), off(0)).stone(0, 6));
            StoneRaised other = set(text, 3, lies(0, 0, 0, 0), lies(strong, 1, 0, 0), off(0));
            s.due("his twin's in another WALL, " + strong, half[1], other.stone(1, 6));
            StoneRaised same = set(text, 3, lies(0, 0, 1, 0), lies(strong, 0, 0, 0), off(0));
            s.due("his twin's in the same WALL, " + strong, strong, same.stone(1, 6));
        }
    }

    private static void holds() {
        Says s = Says.terms("II", "It HOLDS, if it BEARS at least its LOAD.");
        String text = "weighs 5;wall w wide 1 high 3;";
        s.due("10 and 10", 0, set(text, 3, lies(10, 0, 0, 0), lies(5, 0, 0, 1), lies(0, 0, 0, 2)).later(1, 2));
        s.due("9 and 10", 3, set(text, 3, lies(9, 0, 0, 0), lies(5, 0, 0, 1), lies(0, 0, 0, 2)).later(1, 2));
        s.due("4 and 5", 2, set(text, 3, lies(10, 0, 0, 0), lies(4, 0, 0, 1), lies(0, 0, 0, 2)).later(1, 2));
        String twins = text + "twins a b;";
        s.due("half of 11 and 5", 0, set(twins, 3, lies(11, 0, 0, 0), off(0), lies(0, 0, 0, 1)).later(1, 2));
        s.due("half of 9 and 5", 2, set(twins, 3, lies(9, 0, 0, 0), off(0), lies(0, 0, 0, 1)).later(1, 2));
    }

    private static int grown(String gains, int strong) {
        StoneRaised x = Scene.set(Scene.HOME + Scene.children(1) + "raised 1 to 30;" + gains, 9, off(strong));
        x.years(1);
        return x.stone(0, 0) - strong;
    }

    private static void gains() {
        Says s = Says.terms("II", "In a YEAR first each stone that is RAISED gains the SUM of gains, 0 .. 99 (below is 0, above 99; "
            + "talk without), 999 at most.");
        s.due("talk without", 5, grown("", 0));
        String[] sums = {"0-9999", "0-1", "0", "1", "98", "99", "100", "9999"};
        int[] want = {0, 0, 0, 1, 98, 99, 99, 99};
        for (int k = 0; k < sums.length; k++) {
            s.due(sums[k], want[k], grown("gains " + sums[k] + ";", 100));
        }
        int[][] near = {{998, 1, 1}, {998, 2, 1}, {999, 1, 0}, {999, 99, 0}, {900, 99, 99}, {901, 99, 98}, {999, 0, 0}};
        for (int[] n : near) {
            s.due(n[0] + " and " + n[1], n[2], grown("gains " + n[1] + ";", n[0]));
        }
    }

    private static void lastYear() {
        Says s = Says.terms("II", "The YEAR is one more then (999 at most).");
        StoneRaised x = Scene.set(Scene.HOME + Scene.children(1) + "raised 1 to 2;", 998, off(3));
        s.due("to 999", 0, x.years(1));
        s.due("it is 999", 999, x.has(5));
        s.due("years beyond", -1, x.years(1));
        s.due("chance beyond", -1, x.chance(1));
        s.due("it is 999 still", 999, x.has(5));
        s.due("later(0)", 1, x.later(0, 1));
        s.due("later(1)", -1, x.later(1, 1));
        s.due("built", -1, x.built(0));
    }

    private static void frosts() {
        Says s = Says.terms("II", "Then, if there is a frost, each stone BUILT IN loses bites (0 at least).");
        StoneRaised x = set("frost 100;bites 5;weighs 0;wall w wide 4 high 1;", 4, lies(4, 0, 0, 0), lies(5, 0, 1, 0),
            lies(6, 0, 2, 0), lies(999, 0, 3, 0));
        s.due("a frost", 1, x.chance(1));
        int[] want = {0, 0, 1, 994};
        for (int child = 0; child < 4; child++) {
            s.due("strength of " + child, want[child], x.stone(child, 0));
        }
        s.due("none falls that bears nothing", 4, x.has(7));
        x.chance(1);
        s.due("0 still", 0, x.stone(0, 0));
        s.due("without a frost none loses", 0, x.years(9));
        s.due("without a frost none loses", 989, x.stone(3, 0));
    }

    private static void frostsElsewhere() {
        Says s = Says.terms("II", "Then, if there is a frost, each stone BUILT IN loses bites (0 at least).");
        String text = Scene.HOME + Scene.children(2) + "child c of hut born 8;child d of hut born 9;raised 1 to 2;frost 100;bites 2;";
        StoneRaised x = Scene.set(text + "wall w wide 1 high 1;may strong<11;", 9, lies(9, 0, 0, 0), off(9), off(0), off(0));
        x.chance(1);
        s.due("BUILT IN", 7, x.stone(0, 0));
        s.due("on the SHELF", 9, x.stone(1, 0));
        s.due("RAISED till now: gains alone", 5, x.stone(2, 0));
        s.due("RAISED from now on", 0, x.stone(3, 0));
        StoneRaised y = Scene.set(text + "wall w wide 4 high 1;", 9, off(9), off(9), off(0), off(0));
        y.chance(1);
        s.due("BUILT IN behind the frost", 9, y.stone(0, 0));
        s.due("DONE and BUILT IN behind the frost", 5, y.stone(2, 0));
        s.due("it is BUILT IN", BUILT, y.stone(2, 1));
    }

    private static void falls() {
        Says s = Says.terms("II", "of that column the lowest one that does not HOLD: it, and all above it in its column, come onto the "
            + "SHELF; so again, until all HOLD.");
        String text = "weighs 4;wall w wide 1 high 4;";
        // The second one bears 7, its LOAD is 8.
        StoneRaised x = set(text, 4, lies(12, 0, 0, 0), lies(7, 0, 0, 1), lies(9, 0, 0, 2), lies(9, 0, 0, 3));
        s.due("none is BUILT IN in this YEAR", 0, x.years(1));
        s.due("what lies below stays", 0, x.at(0, 0, 0));
        s.due("three on the SHELF", 3, x.has(6));
        kept(s, x, 1, 2, 3);
        // Both do not HOLD; had the upper one come down first, the lower one would bear the rest.
        StoneRaised y = set(text, 3, lies(3, 0, 0, 0), lies(3, 0, 0, 1), lies(9, 0, 0, 2));
        y.years(1);
        s.due("the lowest takes all with it", 0, y.has(7));
        kept(s, y, 0, 1, 2);
        StoneRaised next = set("weighs 4;wall w wide 2 high 4;", 5, lies(0, 0, 0, 0), lies(9, 0, 0, 1), lies(9, 0, 0, 2), lies(9, 0, 0, 3),
            lies(9, 0, 1, 0));
        next.years(1);
        s.due("all four of a column", 4, next.has(6));
        s.due("the next column stays", 4, next.at(0, 1, 0));
        StoneRaised z = set(text, 4, lies(12, 0, 0, 0), lies(8, 0, 0, 1), lies(4, 0, 0, 2), lies(0, 0, 0, 3));
        z.years(1);
        s.due("all HOLD, just so", 4, z.has(7));
    }

    /** Whose stones are told as KEPT to have FALLEN, in YEAR 10, the oldest first. */
    private static void kept(Says s, StoneRaised x, int... children) {
        s.due("how many are KEPT", children.length, x.has(9));
        for (int k = 0; k < children.length; k++) {
            s.due("KEPT " + k + ": YEAR", 10, x.kept(k, 0));
            s.due("KEPT " + k + ": CHILD", children[k], x.kept(k, 1));
            s.due("KEPT " + k + ": FELL", 0, x.kept(k, 3));
        }
    }

    private static void fallsInOrder() {
        Says s = Says.terms("II", "Then all that does not HOLD FALLS: of the WALLS the first, of its columns the first,");
        // e lies on weak c; when it is down its twin a bears but half, so that a and b fall ahead of the next WALL.
        StoneRaised x = set("twins a e;weighs 4;wall w wide 2 high 2;wall v wide 1 high 2;", 6, lies(7, 0, 0, 0), lies(9, 0, 0, 1),
            lies(2, 0, 1, 0), lies(0, 1, 0, 0), lies(9, 0, 1, 1), lies(9, 1, 0, 1));
        s.due("all come down, none is BUILT IN", 0, x.years(1));
        kept(s, x, 2, 4, 0, 1, 3, 5);
        int[] walls = {0, 0, 0, 0, 1, 1};
        for (int k = 0; k < walls.length; k++) {
            s.due("WALL of " + k, walls[k], x.kept(k, 2));
        }
    }

    private static void fallenWait() {
        Says s = Says.terms("II", "each stone on the SHELF that did not FALL in this YEAR is BUILT IN, if it can be:");
        StoneRaised x = set("weighs 4;wall w wide 1 high 2;", 3, lies(3, 0, 0, 0), lies(9, 0, 0, 1), off(9));
        s.due("c alone", 1, x.years(1));
        s.due("c lies in the place left", 2, x.at(0, 0, 0));
        s.due("a and b wait", -1, x.at(0, 0, 1));
        s.due("a YEAR later", 1, x.years(1));
        s.due("a on c", 0, x.at(0, 0, 1));
        StoneRaised y = set("weighs 4;wall w wide 1 high 2;", 2, lies(9, 0, 0, 0), off(9));
        y.pull(0);
        s.due("PULLED ahead of the YEAR it does not wait", 2, y.years(1));
        s.due("it lies first again", 0, y.at(0, 0, 0));
    }

    private static void byNumbers() {
        Says s = Says.terms("II", "Then, CHILD by CHILD by numbers,");
        StoneRaised x = set("weighs 0;wall w wide 3 high 1;", 4, off(1), off(9), off(5), off(9));
        s.due("three", 3, x.years(1));
        for (int column = 0; column < 3; column++) {
            s.due("column " + column, column, x.at(0, column, 0));
        }
        s.due("the last one stays", SHELF, x.stone(3, 1));
    }

    private static void firstWall() {
        Says s = Says.terms("II", "into the first WALL for which it can.");
        String text = "weighs 4;wall w wide 1 high 2;wall v wide 1 high 1;wall u wide 1 high 1;";
        StoneRaised free = set(text, 1, off(1));
        free.years(1);
        s.due("the first one", 0, free.at(0, 0, 0));
        StoneRaised full = set(text, 3, lies(9, 0, 0, 0), lies(9, 0, 0, 1), off(1));
        full.years(1);
        s.due("the first one is full", 2, full.at(1, 0, 0));
        StoneRaised weak = set(text, 2, lies(3, 0, 0, 0), off(1));
        weak.years(1);
        s.due("the first one would not bear it", 1, weak.at(1, 0, 0));
        StoneRaised both = set(text, 3, lies(3, 0, 0, 0), lies(1, 1, 0, 0), off(1));
        both.years(1);
        s.due("the third one", 2, both.at(2, 0, 0));
        StoneRaised none = set(text, 4, lies(3, 0, 0, 0), lies(1, 1, 0, 0), lies(1, 2, 0, 0), off(1));
        s.due("none", 0, none.years(1));
        s.due("it stays on the SHELF", SHELF, none.stone(3, 1));
    }

    private static void place() {
        Says s = Says.terms("II", "Its place is the column with fewest stones, of like ones the first, on top, if that is not high already;");
        String text = "weighs 0;wall w wide 3 high 2;";
        s.due("the first of like ones", 0, columnOf(set(text, 1, off(1)), 0));
        s.due("an empty one", 1, columnOf(set(text, 2, lies(1, 0, 0, 0), off(1)), 1));
        s.due("the first one again", 0, columnOf(set(text, 2, lies(1, 0, 1, 0), off(1)), 1));
        s.due("the last one", 2, columnOf(set(text, 3, lies(1, 0, 0, 0), lies(1, 0, 1, 0), off(1)), 2));
        s.due("of like ones behind a higher one", 1,
            columnOf(set(text, 5, lies(1, 0, 0, 0), lies(1, 0, 0, 1), lies(1, 0, 1, 0), lies(1, 0, 2, 0), off(1)), 4));
        StoneRaised top = set(text, 4, lies(1, 0, 0, 0), lies(1, 0, 1, 0), lies(1, 0, 2, 0), off(1));
        top.years(1);
        s.due("on top", 1, top.stone(3, 4));
        StoneRaised full = set(text, 7, lies(1, 0, 0, 0), lies(1, 0, 0, 1), lies(1, 0, 1, 0), lies(1, 0, 1, 1), lies(1, 0, 2, 0),
            lies(1, 0, 2, 1), off(1));
        s.due("all are high already", 0, full.years(1));
        // The column with fewest is 1, where a lies beside him; no other column is tried.
        StoneRaised kept = set(text + "feud a b;", 2, lies(1, 0, 0, 0), off(1));
        s.due("that column alone", 0, kept.years(1));
    }

    private static int columnOf(StoneRaised x, int child) {
        x.years(1);
        return x.stone(child, 3);
    }

    private static void feuds() {
        Says s = Says.terms("II", "it can be there, if none with whom he has a FEUD lies next to it on the left or on the right, on its "
            + "course,");
        String wall = "weighs 0;wall w wide 3 high 2;";
        s.due("no FEUD", 1, set(wall, 2, lies(1, 0, 0, 0), off(1)).years(1));
        s.due("on the left", 0, set(wall + "feud a b;", 2, lies(1, 0, 0, 0), off(1)).years(1));
        s.due("on the right", 0, set(wall + "feud a b;", 2, lies(1, 0, 1, 0), off(1)).years(1));
        String[] both = {"feud c b;", "feud b a;", "feud a b;feud b c;"};
        for (String feud : both) {
            StoneRaised x = set(wall + feud, 3, lies(1, 0, 0, 0), off(1), lies(1, 0, 2, 0));
            s.due("between two, " + feud, 0, x.years(1));
            x.peace(0);
            s.due("the first FEUD is ended, " + feud, feud.length() > 9 ? 0 : 1, x.years(1));
        }
        s.due("another one's FEUD", 1, set(wall + "feud a c;", 3, lies(1, 0, 0, 0), off(1), lies(1, 0, 2, 0)).years(1));
    }

    private static void feudsFar() {
        Says s = Says.terms("II", "lies next to it on the left or on the right, on its course,");
        String text = "weighs 0;wall w wide 3 high 2;feud a c;";
        s.due("two columns off", 1, set(text, 3, lies(1, 0, 0, 0), lies(1, 0, 1, 0), off(1)).years(1));
        s.due("under it", 1, set("weighs 0;wall w wide 1 high 2;feud a b;", 2, lies(1, 0, 0, 0), off(1)).years(1));
        String two = "weighs 0;wall w wide 2 high 2;feud a d;";
        StoneRaised lower = set(two, 4, lies(1, 0, 0, 0), lies(1, 0, 0, 1), lies(1, 0, 1, 0), off(1));
        s.due("on the left, a course lower", 1, lower.years(1));
        StoneRaised upper = set(two, 4, lies(1, 0, 0, 1), lies(1, 0, 0, 0), off(1), off(1));
        // c comes beside b, then d on c beside a.
        s.due("on the left, on its course", 1, upper.years(1));
        StoneRaised higher = set("weighs 0;wall w wide 2 high 2;feud a c;", 3, lies(1, 0, 0, 1), lies(1, 0, 0, 0), off(1));
        s.due("on the left, a course higher", 1, higher.years(1));
        String walls = "weighs 0;wall w wide 4 high 1;wall v wide 4 high 1;feud a e;";
        StoneRaised last = set(walls, 5, lies(1, 0, 3, 0), lies(1, 0, 0, 0), lies(1, 0, 1, 0), lies(1, 0, 2, 0), off(1));
        s.due("the last column of the WALL ahead", 1, last.years(1));
        s.due("it lies in the next WALL", 4, last.at(1, 0, 0));
        StoneRaised first = set(walls, 5, lies(1, 1, 0, 0), lies(1, 0, 0, 0), lies(1, 0, 1, 0), lies(1, 0, 2, 0), off(1));
        s.due("the first column of the next WALL", 1, first.years(1));
        s.due("it lies in the last column", 4, first.at(0, 3, 0));
    }

    private static void may() {
        Says s = Says.terms("II", "if the TEST of may holds (without it always),");
        String wall = "weighs 0;wall w wide 2 high 2;";
        s.due("without", 1, set(wall, 1, off(0)).years(1));
        s.due("all", 1, set(wall + "may all;", 1, off(0)).years(1));
        s.due("not all", 0, set(wall + "may not all;", 1, off(0)).years(1));
        // In YEAR 9 it is the next YEAR, 10, when stones are BUILT IN; a was born in 0.
        String[] good = {"year=10", "age=10", "talk=5", "warm=0", "strong=7", "course=0", "left=0", "under=0"};
        String[] bad = {"year=9", "age=9", "talk=0", "warm=5", "strong=6", "course=1", "left=7", "under=7"};
        for (int k = 0; k < good.length; k++) {
            s.due(good[k], 1, set(wall + "may " + good[k] + ";", 1, off(7)).years(1));
            s.due(bad[k], 0, set(wall + "may " + bad[k] + ";", 1, off(7)).years(1));
        }
        String homes = "home ox talk 1 warm 6;" + Scene.HOME + Scene.children(1) + "raised 1 to 2;" + wall;
        StoneRaised gone = Scene.set(homes + "may talk=1 and warm=6;", 9, off(7));
        s.due("his HOME as it is", 1, gone.years(1));
        StoneRaised there = Scene.set(homes + "may talk=1 and warm=6;", 9, off(7));
        there.go(0, 1);
        s.due("the HOME that he went to", 0, there.years(1));
    }

    private static void allHold() {
        Says s = Says.terms("II", "and if, it lying there, all stones of that WALL HOLD.");
        String text = "weighs 4;wall w wide 1 high 3;";
        s.due("4 bears one", 1, set(text, 2, lies(4, 0, 0, 0), off(0)).years(1));
        s.due("3 does not", 0, set(text, 2, lies(3, 0, 0, 0), off(0)).years(1));
        s.due("8 and 4 bear two", 1, set(text, 3, lies(8, 0, 0, 0), lies(4, 0, 0, 1), off(0)).years(1));
        s.due("the lowest bears 7", 0, set(text, 3, lies(7, 0, 0, 0), lies(4, 0, 0, 1), off(0)).years(1));
        s.due("the upper one bears 3", 0, set(text, 3, lies(8, 0, 0, 0), lies(3, 0, 0, 1), off(0)).years(1));
        String twins = text + "twins a b;";
        s.due("his twin makes it bear all", 1, set(twins, 2, lies(4, 0, 0, 0), off(0)).years(1));
        s.due("another one does not", 0, set(twins, 3, lies(7, 0, 0, 0), lies(4, 0, 0, 1), off(0)).later(1, 0) & 4);
        // Asked at once nothing falls first: a does not HOLD.
        String two = "weighs 4;wall w wide 2 high 2;wall v wide 1 high 2;";
        StoneRaised weak = set(two.replace("wall v wide 1 high 2;", ""), 3, lies(3, 0, 0, 0), lies(9, 0, 0, 1), off(0));
        s.due("another column does not HOLD", 0, weak.order(-1));
        StoneRaised next = set(two, 3, lies(3, 0, 0, 0), lies(9, 0, 0, 1), off(0));
        s.due("that WALL alone is asked: the next one takes it", 1, next.order(-1));
        StoneRaised other = set(two, 3, lies(3, 1, 0, 0), lies(9, 1, 0, 1), off(0));
        s.due("that another WALL does not HOLD is nothing", 1, other.order(-1));
    }

    private static long drawn(long seed) {
        return (1103515245L * seed + 12345L) % (1L << 31);
    }

    private static void draws() {
        Says s = Says.terms("II", "A DRAW of m: x (the seed) becomes (1103515245 x + 12345) mod 2 to the 31; floor(x / 64) mod m.");
        int[] seeds = {0, 1, 63, 64, 12345, 1073741824, Integer.MAX_VALUE};
        StoneRaised x = Check.with("frost 50;");
        for (int seed : seeds) {
            x.seed(seed);
            long next = drawn(seed);
            s.due("seed " + seed, next / 64 % 100 < 50 ? 1 : 0, x.chance(1));
            s.due("the seed behind " + seed, next, x.has(11));
        }
        x.seed(5);
        long last = 5;
        for (int k = 0; k < 100; k++) {
            last = drawn(last);
        }
        x.chance(100);
        s.due("one DRAW a YEAR", last, x.has(11));
    }

    private static void drawOfHundred() {
        Says s = Says.terms("II", "BY THE SEED a YEAR begins with a DRAW of 100: below frost there is a frost in it (without that there "
            + "is none).");
        int[] edges = {0, 1, 49, 50, 98, 99};
        for (int edge : edges) {
            int seed = 0;
            while (drawn(seed) / 64 % 100 != edge) {
                seed++;
            }
            StoneRaised at = Check.with("frost " + edge + ";");
            at.seed(seed);
            s.due("a DRAW of " + edge + ", frost " + edge, 0, at.chance(1));
            StoneRaised above = Check.with("frost " + (edge + 1) + ";");
            above.seed(seed);
            s.due("a DRAW of " + edge + ", frost " + (edge + 1), 1, above.chance(1));
        }
        StoneRaised x = set("frost 100;bites 9;weighs 0;wall w wide 1 high 1;", 1, lies(20, 0, 0, 0));
        x.years(3);
        s.due("without a DRAW no frost", 20, x.stone(0, 0));
        s.due("and the seed as it was", 1, x.has(11));
        s.due("ahead no frost", 20, x.later(9, 3));
    }
}
