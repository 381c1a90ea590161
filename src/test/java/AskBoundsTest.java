/** The boundary sentences of promises 6 to 12: has, letter, home, child, stone, wall, at. */
public final class AskBoundsTest {
    private static final int[] FAR = {Integer.MIN_VALUE, -1, Integer.MAX_VALUE};

    public static void main(String[] args) {
        has();
        hasMost();
        hasFull();
        letters();
        noLetters();
        homes();
        children();
        childrenOfNone();
        stones();
        stonesOffTheWall();
        walls();
        at();
        Check.finish();
    }

    /** A stone in each of the four states: a lies, b is on the shelf, c is raised, d is not raised yet. */
    private static StoneRaised four() {
        return Scene.set(Scene.HOME + Scene.children(2) + "child c of hut born 8;child d of hut born 9;feud a b;feud b c;"
            + "wall w wide 2 high 1;wall v wide 1 high 1;raised 1 to 2;", 9,
            Scene.lies(7, 1, 0, 0), Scene.off(6), Scene.off(5), Scene.off(0));
    }

    private static void has() {
        Says s = Says.promise(6, "How many there are: 0 HOMES, 1 CHILDREN, 2 WALLS, 3 FEUDS as told, 4 of these not ended, "
            + "5 YEAR, 6 stones on the SHELF, 7 BUILT IN, 8 WALLS that are full, 9 told as KEPT, 10 ACTS that can be undone, "
            + "11 the seed.");
        StoneRaised x = four();
        asked(s, x, "set", 1, 4, 2, 2, 2, 9, 1, 1, 1, 0, 0, 1);
        x.peace(1);
        asked(s, x, "a FEUD ended", 1, 4, 2, 2, 1, 9, 1, 1, 1, 0, 1, 1);
        x.years(1);
        asked(s, x, "a YEAR gone by", 1, 4, 2, 2, 1, 10, 0, 3, 2, 2, 2, 1);
        x.pull(0);
        asked(s, x, "a PULLED", 1, 4, 2, 2, 1, 10, 1, 2, 1, 3, 3, 1);
        x.seed(Integer.MAX_VALUE);
        asked(s, x, "a seed", 1, 4, 2, 2, 1, 10, 1, 2, 1, 3, 3, Integer.MAX_VALUE);
        Says others = Says.promise(6, "NONE for others.");
        others.due("has(12)", -1, x.has(12));
        for (int what : FAR) {
            others.due("has(" + what + ")", -1, x.has(what));
        }
    }

    private static void asked(Says s, StoneRaised x, String when, int... want) {
        for (int what = 0; what < 12; what++) {
            s.due(when + ": has(" + what + ")", want[what], x.has(what));
        }
    }

    private static void hasMost() {
        Says s = Says.promise(6, "How many there are: 0 HOMES, 1 CHILDREN, 2 WALLS, 3 FEUDS as told");
        StringBuilder text = new StringBuilder(Scene.HOME);
        for (int k = 0; k < 5; k++) {
            text.append("home h").append((char) ('a' + k)).append(" talk 1 warm 1;");
        }
        text.append(Scene.children(8));
        for (int k = 0; k < 4; k++) {
            text.append("wall w").append((char) ('a' + k)).append(" wide 4 high 4;");
        }
        String[] feuds = {"a b", "a c", "a d", "a e", "a f", "b c", "b d", "b e", "b f", "g h"};
        for (String feud : feuds) {
            text.append("feud ").append(feud).append(";");
        }
        StoneRaised x = Check.with(text.toString());
        asked(s, x, "as many as there may be", 6, 8, 4, 10, 10, 0, 0, 0, 0, 0, 0, 1);
        for (int feud = 0; feud < 10; feud++) {
            x.peace(feud);
        }
        asked(s, x, "all FEUDS ended", 6, 8, 4, 10, 0, 0, 0, 0, 0, 0, 10, 1);
    }

    private static void hasFull() {
        Says s = Says.promise(6, "8 WALLS that are full");
        String text = Scene.HOME + Scene.children(4) + "wall w wide 2 high 2;weighs 0;raised 1 to 2;";
        int[] off = Scene.off(1);
        int[][] places = {Scene.lies(1, 0, 0, 0), Scene.lies(1, 0, 1, 0), Scene.lies(1, 0, 0, 1), Scene.lies(1, 0, 1, 1)};
        s.due("none of four", 0, Scene.set(text, 9, off, off, off, off).has(8));
        s.due("three of four", 0, Scene.set(text, 9, places[0], places[1], places[2], off).has(8));
        s.due("four of four", 1, Scene.set(text, 9, places).has(8));
    }

    private static void letters() {
        Says s = Says.promise(7, "Letter k (0 .. 5) of the NAME of a HOME (kind 0), a CHILD (1), a WALL (2): 1 .. 26; 0 behind it;");
        StoneRaised x = Check.with("home azazaz talk 1 warm 1;home z talk 1 warm 1;child yb of z born 0;child a of z born 0;"
            + "wall abcde wide 1 high 1;wall vwxyz wide 1 high 1;");
        int[][][] want = {{{1, 26, 1, 26, 1, 26}, {26, 0, 0, 0, 0, 0}}, {{25, 2, 0, 0, 0, 0}, {1, 0, 0, 0, 0, 0}},
            {{1, 2, 3, 4, 5, 0}, {22, 23, 24, 25, 26, 0}}};
        for (int kind = 0; kind < 3; kind++) {
            for (int which = 0; which < 2; which++) {
                for (int k = 0; k < 6; k++) {
                    s.due("letter(" + kind + ", " + which + ", " + k + ")", want[kind][which][k], x.letter(kind, which, k));
                }
            }
        }
    }

    private static void noLetters() {
        Says s = Says.promise(7, "NONE when there is none such.");
        StoneRaised x = Check.with("home a talk 1 warm 1;home b talk 1 warm 1;child c of a born 0;wall w wide 1 high 1;");
        s.due("kind 3", -1, x.letter(3, 0, 0));
        s.due("k 6", -1, x.letter(0, 0, 6));
        s.due("HOME 1", 2, x.letter(0, 1, 0));
        s.due("HOME 2", -1, x.letter(0, 2, 0));
        s.due("CHILD 1", -1, x.letter(1, 1, 0));
        s.due("WALL 1", -1, x.letter(2, 1, 0));
        s.due("WALL 1, behind its NAME", -1, x.letter(2, 1, 5));
        for (int far : FAR) {
            s.due("kind " + far, -1, x.letter(far, 0, 0));
            s.due("HOME " + far, -1, x.letter(0, far, 0));
            s.due("k " + far, -1, x.letter(0, 0, far));
        }
    }

    private static void homes() {
        Says s = Says.promise(8, "Of a HOME: 0 talk, 1 warmth, 2 its CHILDREN, as bits.");
        StoneRaised x = Check.with("home hut talk 0 warm 9;home ox talk 9 warm 0;" + Scene.children(8));
        int[][] want = {{0, 9, 255}, {9, 0, 0}};
        for (int home = 0; home < 2; home++) {
            for (int what = 0; what < 3; what++) {
                s.due("home(" + home + ", " + what + ")", want[home][what], x.home(home, what));
            }
        }
        x.go(7, 1);
        x.go(0, 1);
        s.due("two went", 126, x.home(0, 2));
        s.due("two came", 129, x.home(1, 2));
        x.undo();
        s.due("one came back", 127, x.home(0, 2));
        Says none = Says.promise(8, "NONE when there is none such, or for others.");
        none.due("HOME 2", -1, x.home(2, 0));
        none.due("what 3", -1, x.home(0, 3));
        for (int far : FAR) {
            none.due("HOME " + far, -1, x.home(far, 0));
            none.due("what " + far, -1, x.home(0, far));
        }
    }

    private static void children() {
        Says s = Says.promise(9, "Of a CHILD: 0 his HOME, 1 the YEAR in which he is born, 2 his twin (NONE), 3 with whom he has a "
            + "FEUD, as bits.");
        StoneRaised x = Check.with("home g talk 1 warm 1;home h talk 1 warm 1;child a of h born 99;child b of g born 0;"
            + "child c of g born 5;twins c a;feud a b;feud c a;");
        int[][] want = {{1, 99, 2, 6}, {0, 0, -1, 1}, {0, 5, 0, 1}};
        for (int child = 0; child < 3; child++) {
            for (int what = 0; what < 4; what++) {
                s.due("child(" + child + ", " + what + ")", want[child][what], x.child(child, what));
            }
        }
        x.go(0, 0);
        s.due("his HOME now", 0, x.child(0, 0));
        x.peace(1);
        s.due("the FEUDS not ended", 2, x.child(0, 3));
        s.due("no FEUD left", 0, x.child(2, 3));
        x.peace(0);
        s.due("no FEUD left", 0, x.child(0, 3));
        x.undo();
        s.due("one again", 2, x.child(0, 3));
    }

    private static void childrenOfNone() {
        Says s = Says.promise(9, "NONE when there is none such, or for others.");
        StoneRaised x = four();
        s.due("CHILD 3", 9, x.child(3, 1));
        s.due("CHILD 4", -1, x.child(4, 1));
        s.due("what 4", -1, x.child(0, 4));
        for (int far : FAR) {
            s.due("CHILD " + far, -1, x.child(far, 1));
            s.due("what " + far, -1, x.child(0, far));
        }
    }

    private static void stones() {
        Says s = Says.promise(10, "Of a CHILD's stone: 0 how strong it is, 1 where it is (0 not RAISED yet, 1 RAISED, 2 on the "
            + "SHELF, 3 BUILT IN), 2 WALL, 3 column, 4 course, 5 LOAD, 6 what it BEARS");
        StoneRaised x = four();
        int[][] want = {{7, 3, 1, 0, 0, 0, 7}, {6, 2, -1, -1, -1, -1, -1}, {5, 1, -1, -1, -1, -1, -1}, {0, 0, -1, -1, -1, -1, -1}};
        for (int child = 0; child < 4; child++) {
            for (int what = 0; what < 7; what++) {
                s.due("stone(" + child + ", " + what + ")", want[child][what], x.stone(child, what));
            }
        }
        StoneRaised y = Scene.set(Scene.HOME + Scene.children(3) + "twins a c;wall v wide 1 high 1;wall w wide 4 high 4;weighs 3;"
            + "raised 1 to 2;", 9, Scene.lies(999, 1, 3, 0), Scene.lies(11, 1, 3, 1), Scene.lies(11, 0, 0, 0));
        int[][] high = {{999, 3, 1, 3, 0, 3, 499}, {11, 3, 1, 3, 1, 0, 11}, {11, 3, 0, 0, 0, 0, 5}};
        for (int child = 0; child < 3; child++) {
            for (int what = 0; what < 7; what++) {
                s.due("high: stone(" + child + ", " + what + ")", high[child][what], y.stone(child, what));
            }
        }
    }

    private static void stonesOffTheWall() {
        Says five = Says.promise(10, "(NONE of these five, if it is not BUILT IN)");
        StoneRaised x = four();
        x.pull(0);
        five.due("on the SHELF again", 2, x.stone(0, 1));
        for (int what = 2; what < 7; what++) {
            five.due("come down: " + what, -1, x.stone(0, what));
        }
        Says s = Says.promise(10, "NONE when there is none such, or for others.");
        StoneRaised y = four();
        s.due("CHILD 4", -1, y.stone(4, 0));
        s.due("what 7", -1, y.stone(0, 7));
        s.due("what 7 of a stone on the SHELF", -1, y.stone(1, 7));
        for (int far : FAR) {
            s.due("CHILD " + far, -1, y.stone(far, 0));
            s.due("what " + far, -1, y.stone(0, far));
        }
    }

    private static void walls() {
        Says s = Says.promise(11, "Of a WALL: 0 how wide, 1 how high, 2 how many stones, 10 and k: how many lie in column k.");
        StoneRaised x = Scene.set(Scene.HOME + Scene.children(5) + "wall w wide 1 high 4;wall v wide 4 high 1;weighs 0;raised 1 to 2;",
            9, Scene.lies(1, 0, 0, 0), Scene.lies(1, 0, 0, 1), Scene.lies(1, 0, 0, 2), Scene.lies(1, 0, 0, 3), Scene.lies(1, 1, 3, 0));
        int[][] want = {{1, 4, 4}, {4, 1, 1}};
        for (int wall = 0; wall < 2; wall++) {
            for (int what = 0; what < 3; what++) {
                s.due("wall(" + wall + ", " + what + ")", want[wall][what], x.wall(wall, what));
            }
        }
        s.due("column 0", 4, x.wall(0, 10));
        int[] columns = {0, 0, 0, 1};
        for (int k = 0; k < 4; k++) {
            s.due("column " + k, columns[k], x.wall(1, 10 + k));
        }
        Says none = Says.promise(11, "NONE when there is none such, or for others.");
        none.due("column 1 of a WALL one wide", -1, x.wall(0, 11));
        none.due("column 4 of a WALL four wide", -1, x.wall(1, 14));
        none.due("WALL 2", -1, x.wall(2, 0));
        for (int what = 3; what < 10; what++) {
            none.due("what " + what, -1, x.wall(0, what));
        }
        for (int far : FAR) {
            none.due("WALL " + far, -1, x.wall(far, 0));
            none.due("what " + far, -1, x.wall(0, far));
        }
    }

    private static void at() {
        Says s = Says.promise(12, "Whose stone lies in a WALL, at a column, a course; NONE without, or when there is none such.");
        StoneRaised x = Scene.set(Scene.HOME + Scene.children(3) + "wall w wide 2 high 3;wall v wide 4 high 4;weighs 0;raised 1 to 2;",
            9, Scene.lies(1, 1, 0, 0), Scene.lies(1, 0, 1, 0), Scene.lies(1, 0, 1, 1));
        s.due("b lies", 1, x.at(0, 1, 0));
        s.due("c on b", 2, x.at(0, 1, 1));
        s.due("none on c", -1, x.at(0, 1, 2));
        s.due("none in column 0", -1, x.at(0, 0, 0));
        s.due("a in the next WALL", 0, x.at(1, 0, 0));
        s.due("column 2 of two", -1, x.at(0, 2, 0));
        s.due("column 4 of two, ahead of the next WALL", -1, x.at(0, 4, 0));
        s.due("course 3 of three", -1, x.at(0, 1, 3));
        s.due("course 4, ahead of the next column", -1, x.at(0, 0, 4));
        s.due("course 5, ahead of the next column", -1, x.at(0, 0, 5));
        s.due("column -1 of the next WALL", -1, x.at(1, -1, 0));
        s.due("WALL 2", -1, x.at(2, 0, 0));
        s.due("column 4 of four", -1, x.at(1, 4, 0));
        s.due("course 4 of four", -1, x.at(1, 3, 4));
        for (int far : FAR) {
            s.due("WALL " + far, -1, x.at(far, 0, 0));
            s.due("column " + far, -1, x.at(0, far, 0));
            s.due("course " + far, -1, x.at(0, 1, far));
        }
        x.pull(1);
        s.due("it came down", -1, x.at(0, 1, 0));
        StoneRaised y = Scene.set(Scene.HOME + Scene.children(6) + "wall w wide 4 high 4;wall v wide 4 high 4;weighs 0;raised 1 to 2;",
            9, Scene.lies(1, 0, 0, 0), Scene.lies(1, 0, 0, 1), Scene.lies(1, 0, 0, 2), Scene.lies(1, 0, 0, 3), Scene.lies(1, 0, 1, 0),
            Scene.lies(1, 1, 0, 0));
        s.due("the fourth course", 3, y.at(0, 0, 3));
        s.due("no fifth course, where the next column begins", -1, y.at(0, 0, 4));
        s.due("column 1", 4, y.at(0, 1, 0));
        s.due("no fifth column, where the next WALL begins", -1, y.at(0, 4, 0));
        s.due("the next WALL", 5, y.at(1, 0, 0));
    }
}
