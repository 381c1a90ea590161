/** Promises 6 to 12: has, letter, home, child, stone, wall, at; with how a YEAR goes by. */
public final class AskTest {
    /** Every stone gains its home's talk once: 9 of hall, 4 of hut, 1 of pit. */
    private static final String HOMES = "home hall talk 9 warm 1;home hut talk 4 warm 2;home pit talk 1 warm 3;";
    private static final String ONCE = "raised 1 to 2;";

    public static void main(String[] args) {
        has();
        letters();
        homes();
        children();
        stones();
        walls();
        columns();
        feuds();
        may();
        loads();
        twins();
        Check.finish();
    }

    private static void has() {
        StoneRaised x = Check.with(HOMES + "child a of hall born 0;child b of hut born 0;child c of pit born 5;"
            + "feud a b;feud a c;wall w wide 1 high 1;wall v wide 2 high 1;" + ONCE);
        int[] first = {3, 3, 2, 2, 2, 0, 0, 0, 0, 0, 0, 1};
        for (int what = 0; what < first.length; what++) {
            Check.due("has(" + what + ") at first", first[what], x.has(what));
        }
        x.years(2);
        x.peace(1);
        int[] then = {3, 3, 2, 2, 1, 2, 0, 2, 1, 2, 2, 1};
        for (int what = 0; what < then.length; what++) {
            Check.due("has(" + what + ") in year 2", then[what], x.has(what));
        }
        Check.due("has(-1)", -1, x.has(-1));
        Check.due("has(12)", -1, x.has(12));
        x.pull(0);
        Check.due("one on the shelf", 1, x.has(6));
        Check.due("one built in", 1, x.has(7));
        Check.due("no wall full", 0, x.has(8));
    }

    private static void letters() {
        StoneRaised x = Check.with("home zebra talk 1 warm 1;child az of zebra born 0;wall abcdef wide 1 high 1;");
        int[] zebra = {26, 5, 2, 18, 1, 0};
        for (int k = 0; k < 6; k++) {
            Check.due("letter of zebra " + k, zebra[k], x.letter(0, 0, k));
            Check.due("letter of abcdef " + k, k + 1, x.letter(2, 0, k));
        }
        Check.due("letter of az", 26, x.letter(1, 0, 1));
        Check.due("behind az", 0, x.letter(1, 0, 5));
        int[][] none = {{-1, 0, 0}, {3, 0, 0}, {0, -1, 0}, {0, 1, 0}, {1, 1, 0}, {2, 1, 0}, {0, 0, -1}, {0, 0, 6}};
        for (int[] a : none) {
            Check.due("letter of none", -1, x.letter(a[0], a[1], a[2]));
        }
    }

    private static void homes() {
        StoneRaised x = Check.with(HOMES + "child a of pit born 0;child b of hall born 0;child c of pit born 0;");
        Check.due("talk", 9, x.home(0, 0));
        Check.due("warmth", 3, x.home(2, 1));
        Check.due("its children", 5, x.home(2, 2));
        Check.due("its children", 0, x.home(1, 2));
        x.go(2, 1);
        Check.due("its children then", 1, x.home(2, 2));
        Check.due("its children then", 4, x.home(1, 2));
        Check.due("home 3", -1, x.home(3, 0));
        Check.due("home -1", -1, x.home(-1, 0));
        Check.due("what 3", -1, x.home(0, 3));
        Check.due("what -1", -1, x.home(0, -1));
    }

    private static void children() {
        StoneRaised x = Check.with(HOMES + "child a of pit born 99;child b of hall born 0;child c of pit born 7;"
            + "child d of pit born 7;twins d a;feud c a;feud d c;");
        Check.due("home", 2, x.child(0, 0));
        x.go(0, 1);
        Check.due("home then", 1, x.child(0, 0));
        Check.due("born", 99, x.child(0, 1));
        Check.due("born", 7, x.child(3, 1));
        Check.due("twin", 3, x.child(0, 2));
        Check.due("twin", 0, x.child(3, 2));
        Check.due("no twin", -1, x.child(1, 2));
        Check.due("feuds", 9, x.child(2, 3));
        Check.due("feuds", 4, x.child(3, 3));
        Check.due("no feuds", 0, x.child(1, 3));
        x.peace(0);
        Check.due("feuds not ended", 8, x.child(2, 3));
        Check.due("feuds not ended", 0, x.child(0, 3));
        Check.due("child 4", -1, x.child(4, 0));
        Check.due("child -1", -1, x.child(-1, 0));
        Check.due("what 4", -1, x.child(0, 4));
        Check.due("what -1", -1, x.child(0, -1));
    }

    private static void stones() {
        StoneRaised x = Check.with(HOMES + "child a of hall born 2;raised 2 to 4;");
        int[] where = {0, 0, 0, 0, 1, 1, 2, 2};
        int[] strong = {0, 0, 0, 0, 0, 9, 18, 18};
        for (int year = 0; year < where.length; year++) {
            Check.due("where in " + year, where[year], x.stone(0, 1));
            Check.due("strong in " + year, strong[year], x.stone(0, 0));
            x.years(1);
        }
        for (int what = 2; what < 7; what++) {
            Check.due("not built in: " + what, -1, x.stone(0, what));
        }
        Check.due("stone(1)", -1, x.stone(1, 0));
        Check.due("stone(-1)", -1, x.stone(-1, 0));
        Check.due("what -1", -1, x.stone(0, -1));
        Check.due("what 7", -1, x.stone(0, 7));
    }

    private static void walls() {
        StoneRaised x = Check.with(HOMES + "child a of hall born 0;child b of hall born 0;child c of hall born 0;"
            + "wall v wide 1 high 1;wall w wide 3 high 2;weighs 9;" + ONCE);
        x.years(2);
        Check.due("wide", 3, x.wall(1, 0));
        Check.due("high", 2, x.wall(1, 1));
        Check.due("stones", 2, x.wall(1, 2));
        Check.due("stones", 1, x.wall(0, 2));
        Check.due("column 0", 1, x.wall(1, 10));
        Check.due("column 1", 1, x.wall(1, 11));
        Check.due("column 2", 0, x.wall(1, 12));
        Check.due("column 3", -1, x.wall(1, 13));
        Check.due("column 1 of the narrow one", -1, x.wall(0, 11));
        Check.due("what 3", -1, x.wall(0, 3));
        Check.due("what 9", -1, x.wall(0, 9));
        Check.due("what -1", -1, x.wall(0, -1));
        Check.due("wall 2", -1, x.wall(2, 0));
        Check.due("wall -1", -1, x.wall(-1, 0));
        Check.due("what far off", -1, x.wall(0, Integer.MAX_VALUE));
        Check.due("what far below", -1, x.wall(0, Integer.MIN_VALUE));
        Check.due("at 0 0 0", 0, x.at(0, 0, 0));
        Check.due("at 1 1 0", 2, x.at(1, 1, 0));
        Check.due("at 1 2 0", -1, x.at(1, 2, 0));
        int[][] none = {{-1, 0, 0}, {2, 0, 0}, {0, -1, 0}, {0, 1, 0}, {0, 0, -1}, {0, 0, 1}, {1, 0, 2}, {1, 0, 4}};
        for (int[] a : none) {
            Check.due("at none", -1, x.at(a[0], a[1], a[2]));
        }
    }

    /** A stone comes onto the column with fewest, the first of like ones, on top. */
    private static void columns() {
        StoneRaised x = Check.with(HOMES + "child a of hall born 0;child b of hall born 0;child c of hall born 0;"
            + "child d of hall born 0;child e of hall born 0;child f of hall born 0;child g of hall born 0;"
            + "wall w wide 2 high 3;weighs 1;" + ONCE);
        x.years(2);
        int[][] want = {{0, 2, 4}, {1, 3, 5}};
        for (int column = 0; column < 2; column++) {
            for (int course = 0; course < 3; course++) {
                Check.due("at " + column + " " + course, want[column][course], x.at(0, column, course));
            }
        }
        Check.due("the wall is full", 2, x.stone(6, 1));
        x.pull(1);
        Check.due("down from the second column", 0, x.wall(0, 11));
        x.years(1);
        int[] second = {1, 3, 5};
        for (int course = 0; course < 3; course++) {
            Check.due("by numbers again, " + course, second[course], x.at(0, 1, course));
        }
    }

    /** A feud keeps stones apart that would lie side by side, not one on the other. */
    private static void feuds() {
        String three = HOMES + "child a of hall born 0;child b of hall born 0;child c of hall born 0;weighs 1;" + ONCE;
        StoneRaised x = Check.with(three + "feud a b;wall w wide 2 high 2;");
        x.years(2);
        Check.due("b stays off", 2, x.stone(1, 1));
        Check.due("c lies there", 2, x.at(0, 1, 0));
        x.years(1);
        Check.due("b on a", 1, x.at(0, 0, 1));
        StoneRaised y = Check.with(three + "feud b a;wall w wide 2 high 2;wall v wide 1 high 1;");
        y.years(2);
        Check.due("b goes into the next wall", 1, y.at(1, 0, 0));
        StoneRaised z = Check.with(three + "feud b a;wall w wide 2 high 2;");
        z.peace(0);
        z.years(2);
        Check.due("an ended feud is none", 1, z.at(0, 1, 0));
        StoneRaised r = Check.with(three + "feud b c;wall w wide 3 high 1;");
        r.years(2);
        Check.due("c not right of b", 2, r.stone(2, 1));
        r.pull(0);
        r.peace(0);
        r.years(1);
        Check.due("a back", 0, r.at(0, 0, 0));
        Check.due("c there then", 2, r.at(0, 2, 0));
        StoneRaised left = Check.with(three + "feud a b;wall w wide 3 high 1;");
        left.years(2);
        Check.due("c at 1", 2, left.at(0, 1, 0));
        left.pull(0);
        left.years(1);
        Check.due("a at 0 again", 0, left.at(0, 0, 0));
        Check.due("b at 2 beside c", 1, left.at(0, 2, 0));
        left.pull(0);
        left.pull(2);
        left.years(1);
        Check.due("a, c again; b on the right kept a from 1 alone", 0, left.at(0, 0, 0));
    }

    private static void may() {
        String two = HOMES + "child a of hall born 0;child b of hut born 0;child c of pit born 1;weighs 1;" + ONCE
            + "wall w wide 2 high 2;";
        due(two + "may course=1;", 2, "no first course", -1, -1, -1, -1);
        due(two + "may all;", 2, "all may", 0, -1, 1, -1);
        due(two + "may talk=4;", 2, "by talk", 1, -1, -1, -1);
        due(two + "may warm=1;", 2, "by warmth", 0, -1, -1, -1);
        due(two + "may strong<9;", 2, "by strength", 1, -1, -1, -1);
        due(two + "may year=3;", 2, "by year", -1, -1, -1, -1);
        due(two + "may year=3;", 3, "by year", 0, 2, 1, -1);
        due(two + "may age=3;", 4, "by age", 0, 2, 1, -1);
        due(two + "may left=0;", 2, "by the left", 0, -1, -1, -1);
        due(two + "may left=9 or strong=9;", 2, "by the left", 0, -1, 1, -1);
        due(two + "may under=9 or course=0;", 3, "by what is under", 0, 2, 1, -1);
        due(two + "may under=4 or course=0;", 3, "by what is under", 0, -1, 1, -1);
    }

    private static void due(String text, int years, String why, int... lies) {
        StoneRaised x = Check.with(text);
        x.years(years);
        for (int k = 0; k < 4; k++) {
            Check.due(why + ", column " + k / 2 + " course " + k % 2, lies[k], x.at(0, k / 2, k % 2));
        }
    }

    /** The lowest bears all above it; a stone that would crush another one stays off. */
    private static void loads() {
        StoneRaised x = Check.with(HOMES + "child a of hall born 0;child b of hut born 0;child c of pit born 0;"
            + "child d of pit born 0;weighs 4;wall w wide 1 high 4;" + ONCE);
        x.years(2);
        Check.due("a bears two", 8, x.stone(0, 5));
        Check.due("a bears 9", 9, x.stone(0, 6));
        Check.due("b bears one, just so", 4, x.stone(1, 5));
        Check.due("c bears none", 0, x.stone(2, 5));
        Check.due("c bears 1", 1, x.stone(2, 6));
        Check.due("d would be too much", 2, x.stone(3, 1));
        Check.due("courses", 2, x.stone(2, 4));
        Check.due("column", 0, x.stone(2, 3));
        Check.due("wall", 0, x.stone(2, 2));
        StoneRaised y = Check.with(HOMES + "child a of pit born 0;child b of hall born 0;weighs 4;"
            + "wall w wide 1 high 2;wall v wide 1 high 1;" + ONCE);
        y.years(2);
        Check.due("b would crush a", 1, y.at(1, 0, 0));
        Check.due("its wall", 1, y.stone(1, 2));
    }

    private static void twins() {
        String text = HOMES + "child a of hall born 0;child b of hut born 0;child c of pit born 5;twins a c;"
            + "wall w wide 1 high 3;" + ONCE;
        StoneRaised x = Check.with(text + "weighs 4;");
        x.years(2);
        Check.due("half of 9", 4, x.stone(0, 6));
        Check.due("bears b, just so", 4, x.stone(0, 5));
        x.years(5);
        Check.due("the twin in the same wall", 2, x.at(0, 0, 2));
        Check.due("whole", 9, x.stone(0, 6));
        StoneRaised y = Check.with(text + "weighs 5;");
        y.years(2);
        Check.due("half is not enough", 2, y.stone(1, 1));
        y.years(5);
        Check.due("b alone would crush a still in year 7, c comes behind it", 2, y.at(0, 0, 1));
        Check.due("a bears c, its twin", 9, y.stone(0, 6));
        Check.due("b on c would crush", 2, y.stone(1, 1));
        StoneRaised z = Check.with(text.replace("high 3", "high 1") + "wall v wide 1 high 1;weighs 0;");
        z.years(7);
        Check.due("b in the second wall", 1, z.at(1, 0, 0));
        z.pull(1);
        z.seed(1);
        z.years(1);
        Check.due("b by numbers ahead of c", 1, z.at(1, 0, 0));
    }
}
