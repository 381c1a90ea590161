/** The boundary sentences of the Terms' part I: a town's text, its formulas, names, numbers and faults. */
public final class TextBoundsTest {
    private static final String HOME = "home h talk 1 warm 1;";
    private static final String THREE = HOME + "child c of h born 1;child d of h born 1;child e of h born 1;";
    private static final String[] OWN_WORDS = {"home", "talk", "warm", "child", "of", "born", "twins", "feud", "wall",
        "wide", "high", "gains", "may", "raised", "to", "weighs", "frost", "bites", "age", "strong", "year", "course",
        "left", "under", "if", "or", "and", "not", "all", "min", "max"};

    public static void main(String[] args) {
        statements();
        homes();
        children();
        twins();
        feuds();
        walls();
        formulasOnce();
        raised();
        settings();
        lastCounts();
        parts();
        order();
        conditions();
        facts();
        limits();
        divisions();
        names();
        numbers();
        blanks();
        ownWords();
        noTown();
        endsTooSoon();
        tooLong();
        givenAlready();
        noneOfThese();
        cannotBe();
        depths();
        depthsEnd();
        tooMany();
        firstAlong();
        Check.finish();
    }

    private static String homes(int n) {
        StringBuilder text = new StringBuilder();
        for (int k = 0; k < n; k++) {
            text.append("home h").append((char) ('a' + k)).append(" talk 1 warm 1;");
        }
        return text.toString();
    }

    private static void statements() {
        Says s = Says.terms("I", "A TOWN is a text: { STATEMENT ; } (80 at most)");
        String line = "bites 1;";
        s.due("an empty text", 0, Check.town(new StoneRaised(), ""));
        s.due("one", 1, Check.town(new StoneRaised(), line));
        s.due("79", 79, Check.town(new StoneRaised(), line.repeat(79)));
        s.due("80", 80, Check.town(new StoneRaised(), line.repeat(80)));
        s.due("80 and blanks", 80, Check.town(new StoneRaised(), line.repeat(80) + "\n "));
        s.faulty(line.repeat(81), 6, 640);
        s.faulty("bites 1", 1, 7);
        s.faulty("bites 1 bites 1;", 1, 8);
        s.faulty(";", 1, 0);
        s.faulty(line + ";", 1, 8);
    }

    private static void homes() {
        Says s = Says.terms("I", "home NAME talk N warm N (0 .. 9 each; 6 HOMES)");
        StoneRaised x = Check.with("home a talk 0 warm 9;home b talk 9 warm 0;");
        int[][] want = {{0, 9}, {9, 0}};
        for (int home = 0; home < 2; home++) {
            s.due("talk of " + home, want[home][0], x.home(home, 0));
            s.due("warmth of " + home, want[home][1], x.home(home, 1));
        }
        s.faulty("home h talk 10 warm 0;", 4, 12);
        s.faulty("home h talk 9 warm 10;", 4, 19);
        s.due("6 HOMES", 6, Check.with(homes(6)).has(0));
        s.faulty(homes(7), 6, homes(6).length());
    }

    private static void children() {
        Says s = Says.terms("I", "child NAME of NAME born N (a HOME, a YEAR 0 .. 99; 8 CHILDREN)");
        StoneRaised x = Check.with("home g talk 1 warm 1;" + HOME + "child c of h born 0;child d of g born 99;");
        s.due("c's home", 1, x.child(0, 0));
        s.due("c's year", 0, x.child(0, 1));
        s.due("d's home", 0, x.child(1, 0));
        s.due("d's year", 99, x.child(1, 1));
        s.faulty(HOME + "child c of h born 100;", 4, 39);
        s.faulty(HOME + "child c of g born 0;", 3, 32);
        s.faulty(THREE + "child f of c born 0;", 3, 92);
        s.faulty("wall w wide 1 high 1;child f of w born 0;", 3, 32);
        String eight = Scene.HOME + Scene.children(8);
        s.due("8 CHILDREN", 8, Check.with(eight).has(1));
        s.faulty(eight + "child i of hut born 0;", 6, eight.length());
    }

    private static void twins() {
        Says s = Says.terms("I", "twins NAME NAME (two unlike CHILDREN, none of them told of so far)");
        s.good(THREE + "twins c d;");
        s.faulty(THREE + "twins c c;", 3, 89);
        s.faulty(THREE + "twins h c;", 3, 87);
        s.faulty(THREE + "twins c h;", 3, 89);
        s.faulty(THREE + "twins x c;", 3, 87);
        s.faulty(THREE + "twins c d;twins c e;", 3, 97);
        s.faulty(THREE + "twins c d;twins d e;", 3, 97);
        s.faulty(THREE + "twins c d;twins e c;", 3, 99);
        s.faulty(THREE + "twins c d;twins e d;", 3, 99);
        String eight = Scene.HOME + Scene.children(8);
        StoneRaised x = Check.with(eight + "twins a b;twins c d;twins e f;twins h g;");
        for (int child = 0; child < 8; child++) {
            s.due("four pairs: the twin of " + child, child ^ 1, x.child(child, 2));
        }
        s.faulty(eight + "twins a b;twins c d;twins e f;twins h g;twins a", 3, eight.length() + 46);
    }

    private static void feuds() {
        Says s = Says.terms("I", "feud NAME NAME (two unlike CHILDREN, not told so already, in either order; 10)");
        s.good(THREE + "feud c d;feud c e;feud d e;");
        s.good(THREE + "twins c d;feud d c;");
        s.faulty(THREE + "feud c c;", 3, 88);
        s.faulty(THREE + "feud h c;", 3, 86);
        s.faulty(THREE + "feud c h;", 3, 88);
        s.faulty(THREE + "feud c d;feud c d;", 3, 97);
        s.faulty(THREE + "feud c d;feud d c;", 3, 97);
        s.faulty(THREE + "feud c d;feud d e;feud d c;", 3, 106);
        String five = Scene.HOME + Scene.children(5);
        String nine = "feud a b;feud a c;feud a d;feud a e;feud b c;feud b d;feud b e;feud c d;feud c e;";
        StoneRaised x = Check.with(five + nine + "feud e d;");
        s.due("10", 10, x.has(3));
        s.due("the last one", 0b1111, x.child(4, 3));
        s.due("with whom", 0b10111, x.child(3, 3));
        String six = Scene.HOME + Scene.children(6) + nine + "feud e d;";
        s.faulty(six + "feud a f;", 6, six.length());
        s.faulty(six + "feud a b;", 6, six.length());
    }

    private static void walls() {
        Says s = Says.terms("I", "wall NAME wide N high N (1 .. 4 each; 4 WALLS)");
        StoneRaised x = Check.with("wall a wide 1 high 4;wall b wide 4 high 1;");
        int[][] want = {{1, 4}, {4, 1}};
        for (int wall = 0; wall < 2; wall++) {
            s.due("wide, " + wall, want[wall][0], x.wall(wall, 0));
            s.due("high, " + wall, want[wall][1], x.wall(wall, 1));
        }
        s.faulty("wall w wide 0 high 1;", 4, 12);
        s.faulty("wall w wide 5 high 1;", 4, 12);
        s.faulty("wall w wide 1 high 0;", 4, 19);
        s.faulty("wall w wide 4 high 5;", 4, 19);
        String four = "wall a wide 1 high 1;wall b wide 1 high 1;wall c wide 1 high 1;wall d wide 1 high 1;";
        s.due("4 WALLS", 4, Check.with(four).has(2));
        s.faulty(four + "wall e wide 1 high 1;", 6, four.length());
    }

    private static void formulasOnce() {
        Says s = Says.terms("I", "gains SUM, may TEST (one each)");
        s.good("gains 1;may all;");
        s.good("may all;gains 1;");
        s.faulty("gains 1;may all;gains 1;", 6, 16);
        s.faulty("may all;gains 1;may all;", 6, 16);
        s.faulty("gains all;", 1, 6);
        s.faulty("may 1;", 1, 5);
    }

    private static void raised() {
        Says s = Says.terms("I", "raised N to N (1 .. 30 each, the second one above the first)");
        s.good("raised 1 to 2;");
        s.good("raised 1 to 30;");
        s.good("raised 29 to 30;");
        s.faulty("raised 0 to 2;", 4, 7);
        s.faulty("raised 31 to 32;", 4, 7);
        s.faulty("raised 30 to 30;", 4, 13);
        s.faulty("raised 30 to 31;", 4, 13);
        s.faulty("raised 1 to 31;", 4, 12);
        s.faulty("raised 1 to 1;", 4, 12);
        s.faulty("raised 2 to 1;", 4, 12);
        s.faulty("raised 1 to 0;", 4, 12);
    }

    private static void settings() {
        Says s = Says.terms("I", "weighs N (0 .. 99), frost N (0 .. 100), bites N (0 .. 99)");
        s.good("weighs 0;frost 0;bites 0;");
        s.good("weighs 99;frost 100;bites 99;");
        s.faulty("weighs 100;", 4, 7);
        s.faulty("frost 101;", 4, 6);
        s.faulty("bites 100;", 4, 6);
        s.due("weighs 0", 0, pile("weighs 0;").stone(0, 5));
        s.due("weighs 99", 99, pile("weighs 99;").stone(0, 5));
        s.due("frost 0", 0, Check.with("frost 0;").chance(100));
        s.due("frost 100", 100, Check.with("frost 100;").chance(100));
        s.due("bites 0", 500, frozen("bites 0;"));
        s.due("bites 99", 401, frozen("bites 99;"));
    }

    private static StoneRaised pile(String text) {
        return Scene.set(Scene.HOME + Scene.children(2) + "wall w wide 1 high 2;" + text, 99,
            Scene.lies(500, 0, 0, 0), Scene.lies(500, 0, 0, 1));
    }

    private static int frozen(String text) {
        StoneRaised x = pile("frost 100;" + text);
        x.chance(1);
        return x.stone(1, 0);
    }

    private static void lastCounts() {
        Says s = Says.terms("I", "the last one of each counts (7 to 21; 10, 0, 5 without)");
        StoneRaised x = Check.with(HOME + "child a of h born 0;");
        x.years(6);
        s.due("AGE 6", 0, x.stone(0, 1));
        x.years(1);
        s.due("AGE 7", 1, x.stone(0, 1));
        x.years(13);
        s.due("AGE 20", 1, x.stone(0, 1));
        x.years(1);
        s.due("AGE 21", 2, x.stone(0, 1));
        s.due("weighs 10", 10, pile("").stone(0, 5));
        s.due("frost 0", 0, new StoneRaised().chance(100));
        s.due("bites 5", 495, frozen(""));
        StoneRaised y = Check.with(HOME + "child a of h born 0;raised 1 to 2;raised 3 to 4;");
        y.years(2);
        s.due("the last raised: AGE 2", 0, y.stone(0, 1));
        y.years(2);
        s.due("the last raised: AGE 4", 2, y.stone(0, 1));
        s.due("the last weighs", 3, pile("weighs 8;weighs 3;").stone(0, 5));
        s.due("the last frost", 0, Check.with("frost 100;frost 0;").chance(9));
        s.due("the last bites", 498, frozen("bites 9;bites 2;"));
    }

    /** Whether a TEST holds in gains, for a child of talk 3, warmth 7, AGE 1, in YEAR 2. */
    private static boolean holds(String test) {
        StoneRaised x = Check.with("home h talk 3 warm 7;child c of h born 1;raised 1 to 9;gains if(" + test + ",1,2);");
        x.years(3);
        return x.stone(0, 0) == 1;
    }

    private static void same(Says s, String sum, int want) {
        String number = want < 0 ? "0-" + -want : "" + want;
        s.due(sum, true, holds("(" + sum + ")=" + number));
    }

    private static void parts() {
        Says sum = Says.terms("I", "SUM: PRODUCT { + or - PRODUCT }. PRODUCT: PART { * or / or % PART }.");
        same(sum, "2+3*4", 14);
        same(sum, "2*3+4", 10);
        same(sum, "(2+3)*4", 20);
        same(sum, "9-6/3", 7);
        same(sum, "9-7%4", 6);
        Says part = Says.terms("I", "( SUM ) ; min ( SUM , SUM ) ; max ( SUM , SUM ) ; if ( TEST , SUM , SUM ) (the first SUM");
        same(part, "min(4,9)", 4);
        same(part, "min(9,4)", 4);
        same(part, "max(4,9)", 9);
        same(part, "max(9,4)", 9);
        same(part, "min(5,5)+max(6,6)", 11);
        same(part, "min(0-1,1)*max(0-2,0-3)", 2);
        Says chosen = Says.terms("I", "(the first SUM where the TEST holds, else the second one)");
        same(chosen, "if(1=1,5,6)", 5);
        same(chosen, "if(1=2,5,6)", 6);
        Says test = Says.terms("I", "TEST: BOTH { or BOTH }. BOTH: FACT { and FACT }.");
        String[] good = {"all", "1=1 or 1=2", "1=2 or 1=1", "1=1 and 2=2", "1=1 or 1=1 and 1=2", "1=2 and 1=1 or 1=1",
            "1=2 or 1=3 or 1=1"};
        String[] bad = {"1=2 or 1=3", "1=1 and 1=2", "1=2 and 1=1", "[1=1 or 1=1]and 1=2", "1=1 and 1=1 and 1=2"};
        told(test, good, bad);
    }

    private static void told(Says s, String[] good, String[] bad) {
        for (String test : good) {
            s.due(test + " holds", true, holds(test));
        }
        for (String test : bad) {
            s.due(test + " does not hold", false, holds(test));
        }
    }

    private static void order() {
        Says s = Says.terms("I", "All from the left on;");
        same(s, "20-5-3", 12);
        same(s, "20-5+3", 18);
        same(s, "100/5/2", 10);
        same(s, "99/7*7", 98);
        same(s, "7*99%7", 0);
        same(s, "17%5*2", 4);
    }

    private static void conditions() {
        Says s = Says.terms("I", "FACT: not FACT; [ TEST ] ; all; SUM SIGN SUM, SIGN < or > or = .");
        String[] good = {"1<2", "2>1", "2=2", "not 1=2", "not not 1=1", "[all]", "not[1=2 or 1=3]", "0-1<0", "not 1=2 or all"};
        String[] bad = {"2<2", "2>2", "3<2", "1>2", "1=2", "not all", "not not 1=2", "not[1=2 or all]", "not 1=1 and all"};
        told(s, good, bad);
        s.faulty("may all=1;", 1, 7);
        s.faulty("may 1<2<3;", 1, 7);
        s.faulty("may <1;", 1, 4);
        s.faulty("may 1>=2;", 1, 6);
        s.faulty("may[];", 1, 4);
        s.faulty("may not;", 1, 7);
        s.faulty("may (1=1);", 1, 6);
        s.faulty("may [1=1);", 1, 8);
    }

    private static void facts() {
        Says of = Says.terms("I", "Of a CHILD talk, warmth of his HOME; his AGE; how strong his stone is; the YEAR");
        same(of, "talk", 3);
        same(of, "warm", 7);
        same(of, "age", 1);
        same(of, "strong", 0);
        same(of, "year", 2);
        Says in = Says.terms("I", "PART: N; talk; warm; age; strong; year; in may: course; left; under;");
        String[] words = {"course", "left", "under"};
        for (String word : words) {
            in.good("may " + word + "=0;");
            in.faulty("gains " + word + ";", 1, 6);
            in.faulty("gains if(" + word + "=0,1,2);", 1, 9);
            in.faulty("may all;gains 1+" + word + ";", 1, 16);
        }
        Says lies = Says.terms("I", "on which course it would lie, 0 the lowest; how strong the stone is that lies next to "
            + "it on the left, on its course, and the one it would lie on: 0 without.");
        // The place is column 0 course 0, then column 1 course 0, then column 0 course 1 beside nothing.
        lies.due("course 0 alone", 2, lying("course=0"));
        lies.due("course 1", 3, lying("course=0 or course=1 and left=0 and under=11"));
        lies.due("no other course", 2, lying("course=0 or course>1"));
        lies.due("nothing on the left, nothing under", 1, lying("left=0 and under=0"));
        lies.due("on the left of column 1 lies 11", 2, lying("course=0 and [strong=11 or left=11]"));
        lies.due("what lies left on another course is none", 3, lying("course=0 or left=0"));
        lies.due("the one it would lie on has 11", 2, lying("course=0 or under<11 or under>11"));
    }

    /** How many of three stones, 11, 12, 13 strong, come into a wall two wide by a TEST. */
    private static int lying(String may) {
        StoneRaised x = Scene.set(Scene.HOME + Scene.children(3) + "weighs 1;raised 1 to 2;wall w wide 2 high 2;may " + may + ";",
            9, Scene.off(11), Scene.off(12), Scene.off(13));
        return x.years(1);
    }

    private static void limits() {
        Says s = Says.terms("I", "each result above 10 to the 6 is that, below -10 to the 6 likewise");
        String[] good = {"999*1001+1=1000*1000", "999*1001+2=1000*1000", "999*1001+2-1000*1000=0", "999*1001<1000*1000",
            "0-999*1001-1=0-1000*1000", "0-999*1001-2=0-1000*1000", "0-999*1001-2+1000*1000=0", "0-999*1001>0-1000*1000",
            "1001*1000-1000*1000=0", "9999*9999-1000*1000=0", "(0-1001)*1000+1000*1000=0", "(0-9999)*9999+1000*1000=0",
            "1000*1000+1-1=999*1001", "9999*9999/1000=1000", "9999*9999*9999/1000=1000"};
        told(s, good, new String[] {"999*1001=1000*1000", "0-999*1001=0-1000*1000", "1000*999=1000*1000"});
    }

    private static void divisions() {
        Says over = Says.terms("I", "/ gives the greatest whole number not above");
        same(over, "7/2", 3);
        same(over, "6/2", 3);
        same(over, "(0-7)/2", -4);
        same(over, "(0-6)/2", -3);
        same(over, "7/(0-2)", -4);
        same(over, "(0-7)/(0-2)", 3);
        same(over, "0/5", 0);
        same(over, "1/9999", 0);
        same(over, "(0-1)/9999", -1);
        Says rest = Says.terms("I", "% what is left (a less b times that)");
        same(rest, "7%2", 1);
        same(rest, "6%2", 0);
        same(rest, "(0-7)%2", 1);
        same(rest, "7%(0-2)", -1);
        same(rest, "(0-7)%(0-2)", -1);
        same(rest, "(0-6)%(0-2)", 0);
        Says zero = Says.terms("I", "by 0 both give 0;");
        same(zero, "5/0", 0);
        same(zero, "5%0", 0);
        same(zero, "(0-5)/0", 0);
        same(zero, "(0-5)%0", 0);
        same(zero, "0/0+0%0", 0);
    }

    private static void names() {
        Says length = Says.terms("I", "NAMES: 1 to 6 letters");
        length.good("home a talk 1 warm 1;child z of a born 1;wall abcdef wide 1 high 1;");
        length.good("home uvwxyz talk 1 warm 1;child uvwxy of uvwxyz born 1;");
        length.faulty("home abcdefg talk 1 warm 1;", 1, 11);
        length.faulty("home 1 talk 1 warm 1;", 1, 5);
        length.faulty("home A talk 1 warm 1;", 1, 5);
        length.faulty("home ` talk 1 warm 1;", 1, 5);
        length.faulty("home { talk 1 warm 1;", 1, 5);
        Says unlike = Says.terms("I", "unlike ones (of all sorts), told ahead of where they are asked.");
        String[] first = {"home x talk 1 warm 1;", HOME + "child x of h born 1;", "wall x wide 1 high 1;"};
        String[] again = {"home x talk 1 warm 1;", "child x of h born 1;", "wall x wide 1 high 1;"};
        int[] place = {5, 6, 5};
        for (String one : first) {
            for (int k = 0; k < 3; k++) {
                unlike.faulty(one + again[k], 2, one.length() + place[k]);
            }
        }
        unlike.good("home x talk 1 warm 1;home xx talk 1 warm 1;child xa of x born 1;wall ax wide 1 high 1;");
        unlike.faulty("child c of h born 1;" + HOME, 3, 11);
        unlike.faulty(HOME + "child c of h born 1;twins c d;child d of h born 1;", 3, 49);
        unlike.faulty(HOME + "child c of h born 1;feud d c;child d of h born 1;", 3, 46);
    }

    private static void numbers() {
        Says s = Says.terms("I", "NUMBERS: 1 to 4 digits.");
        s.good("home h talk 0001 warm 9;");
        s.good("weighs 0099;gains 9999+0000;");
        s.faulty("weighs 00099;", 1, 11);
        s.faulty("gains 10000;", 1, 10);
        s.faulty("home h talk 00001 warm 1;", 1, 16);
        s.faulty("weighs /;", 1, 7);
        s.faulty("weighs :;", 1, 7);
    }

    private static void blanks() {
        Says s = Says.terms("I", "Blanks (10, 32) are where one likes (words and numbers side by side need one)");
        s.good("\n home\nh \n talk 1\nwarm\n1 ; \n");
        s.good(" gains ( talk + 1 ) * min ( 2 , 3 ) ; may [ 1 = 1 ] ; ");
        s.good("gains(talk+1)*min(2,3);may[1=1]and[all];");
        int[] others = {0, 9, 11, 13, 31, 33, 160, 255};
        for (int other : others) {
            s.faulty("home" + (char) other + "h talk 1 warm 1;", 1, 4);
            s.faulty("bites 1;" + (char) other, 1, 8);
        }
        s.faulty("weighs1;", 1, 6);
        s.faulty("home h talk 1warm 1;", 1, 13);
        s.faulty("may 1=1or 1=2;", 1, 7);
        s.faulty("home1", 1, 4);
        s.faulty("wall1", 1, 4);
        s.faulty("child1", 1, 5);
        s.faulty(THREE + "child x of1", 1, 91);
        s.faulty(THREE + "twins1", 1, 86);
        s.faulty(THREE + "twins c1", 1, 88);
        s.faulty(THREE + "feud1", 1, 85);
        s.faulty(THREE + "feud c1", 1, 87);
        s.faulty("raised 1to 2;", 1, 8);
        s.faulty("raised 1 to2;", 1, 11);
        s.faulty("gains 1min(1,2);", 1, 7);
        s.faulty("gains min1", 1, 9);
        s.faulty("may not1=1;", 1, 7);
        s.good("may not(1)=1 and(1)=1;");
        s.good("may 1=1 or 1=2;");
    }

    private static void ownWords() {
        Says s = Says.terms("I", "OWN WORDS, which no NAME is: home, talk, warm, child, of, born, twins, feud, wall, wide, "
            + "high, gains, may, raised, to, weighs, frost, bites, age, strong, year, course, left, under, if, or, and, not, "
            + "all, min, max.");
        Says fault = Says.terms("I", "an OWN WORD where a NAME must be)");
        String[] ahead = {"home ", "child ", HOME + "child c of ", "wall ", THREE + "twins ", THREE + "twins c ",
            THREE + "feud ", THREE + "feud c "};
        for (String word : OWN_WORDS) {
            for (String text : ahead) {
                fault.faulty(text + word, 1, text.length());
            }
            String longer = word.length() < 6 ? word + "s" : word.substring(1);
            s.good("home " + longer + " talk 1 warm 1;");
            s.good("home " + word.substring(1) + "x talk 1 warm 1;");
        }
    }

    private static void noTown() {
        Says s = Says.terms("I", "1 the first byte with which no TOWN goes on (words and numbers whole, at their first byte;");
        s.faulty("x", 1, 0);
        s.faulty("home h talc 1 warm 1;", 1, 7);
        s.faulty("home h talk one warm 1;", 1, 12);
        s.faulty("home h talk 1 warn 1;", 1, 14);
        s.faulty("home h talk 1 warm 1 2;", 1, 21);
        s.faulty("home 12", 1, 5);
        s.faulty("homes", 1, 0);
        s.faulty("weighs 1 frost", 1, 9);
        s.faulty("raised 1 too 2;", 1, 9);
        s.faulty("twins 77", 1, 6);
        s.faulty(THREE + "feud c 77", 1, 88);
        s.faulty("gains 1 22;", 1, 8);
        s.faulty("gains 1+*2;", 1, 8);
        s.faulty("gains strength;", 1, 12);
        s.faulty("gains stron;", 1, 6);
        s.faulty("gains min 1", 1, 10);
        s.faulty("gains min;", 1, 9);
        s.faulty("gains max;", 1, 9);
        s.faulty("gains if;", 1, 8);
        s.faulty("gains 1+if;", 1, 10);
        s.faulty("gains;", 1, 5);
        s.faulty("gains 1+;", 1, 8);
        s.faulty("gains ();", 1, 7);
        s.faulty("gains min(,1);", 1, 10);
        s.faulty("gains min(1,);", 1, 12);
        s.faulty("gains if(,1,2);", 1, 9);
        s.faulty("may;", 1, 3);
        s.faulty("may 1=;", 1, 6);
        s.faulty("may 1;", 1, 5);
        s.faulty("gains min(1;2)", 1, 11);
        s.faulty("gains min(1,2,3)", 1, 13);
        s.faulty("gains max(1)", 1, 11);
        s.faulty("gains if(1,2,3)", 1, 10);
        s.faulty("gains if(all,2)", 1, 14);
        s.faulty("gains 1);", 1, 7);
        s.faulty("may all];", 1, 7);
        s.faulty("may all and;", 1, 11);
        s.faulty("may all or or", 1, 11);
    }

    private static void endsTooSoon() {
        Says s = Says.terms("I", "at the text's length, if it ends too soon;");
        String[][] texts = {{"home", " h", " talk", " 1", " warm", " 1"}, {"child"}, {"twins"}, {"feud"},
            {"wall", " w", " wide", " 1", " high", " 1"}, {"gains", " (", "1", ")", "*", "min", "(", "1", ",", "2", ")"},
            {"may", " [", "not", " 1", "=", "1", "]", "and", " all"}, {"raised", " 1", " to", " 2"}, {"weighs", " 1"},
            {"frost", " 1"}, {"bites", " 1"}, {HOME + "child", " c", " of", " h", " born", " 1"},
            {THREE + "twins", " c", " d"}, {THREE + "feud", " c", " d"},
            {"gains if", "(", "all", " or", " 1", "<", "2", ",", "3", ",", "4", ")", "+", "talk"}};
        for (String[] text : texts) {
            String told = "";
            for (String piece : text) {
                told += piece;
                s.faulty(told, 1, told.length());
                s.faulty(told + " \n", 1, told.length() + 2);
            }
        }
        s.good("");
        s.good("\n");
        StringBuilder full = new StringBuilder("bites 1");
        while (full.length() < 1600) {
            full.append(' ');
        }
        s.faulty(full.toString(), 1, 1600);
        full.setCharAt(1599, ';');
        s.good(full.toString());
    }

    private static void tooLong() {
        Says s = Says.terms("I", "a 7th letter, a 5th digit at itself, whatever may stand there;");
        s.faulty("abcdef", 1, 0);
        s.faulty("abcdefg", 1, 6);
        s.faulty("raiseds", 1, 6);
        s.faulty("home abcdefghijkl", 1, 11);
        s.faulty(HOME + "child c of abcdefg", 1, 38);
        s.faulty("1234", 1, 0);
        s.faulty("12345", 1, 4);
        s.faulty("weighs 99999", 1, 11);
        s.faulty("weighs 9999", 4, 7);
        s.faulty("weighs 1 abcdefg", 1, 15);
        s.faulty("weighs 1 12345", 1, 13);
        s.faulty("home 12345", 1, 9);
        s.faulty("gains 1 strongly", 1, 14);
    }

    private static void givenAlready() {
        Says s = Says.terms("I", "2 a NAME to be given that is there already, at its first byte;");
        s.faulty("home stone talk 1 warm 1;home stone talk 10 warm 1;", 2, 30);
        s.faulty(HOME + "child c of h born 1;child c of h born 100;", 2, 47);
        s.faulty("wall stone wide 1 high 1;wall stone wide 0 high 1;", 2, 30);
    }

    private static void noneOfThese() {
        Says s = Says.terms("I", "3 a NAME that is none of what is asked (the same one, a twin told of already, a FEUD told "
            + "already, at the second place; a twin told of already at the first one, too), at its first byte;");
        s.faulty(HOME + "child c of nobody born 100;", 3, 32);
        s.faulty(THREE + "twins nobody c;", 3, 87);
        s.faulty(THREE + "twins c nobody;", 3, 89);
        s.faulty(THREE + "twins c c;", 3, 89);
        s.faulty(THREE + "twins c d;twins d nobody;", 3, 97);
        s.faulty(THREE + "twins c d;twins e d;", 3, 99);
        s.faulty(THREE + "feud nobody c;", 3, 86);
        s.faulty(THREE + "feud c c;", 3, 88);
        s.faulty(THREE + "feud c d;feud d c;", 3, 97);
        s.faulty(THREE + "feud c d;feud d d;", 3, 97);
        s.faulty(THREE + "wall w wide 1 high 1;feud w c;", 3, 107);
        s.good(THREE + "feud c d;feud c e;");
    }

    private static void cannotBe() {
        Says s = Says.terms("I", "4 a NUMBER that can't be, at its first byte;");
        s.faulty("home h talk 9999 warm x", 4, 12);
        s.faulty("home h talk 0010 warm x", 4, 12);
        s.faulty(HOME + "child c of h born 0100 x", 4, 39);
        s.faulty("raised 5 to 0005 x", 4, 12);
        s.good("gains 9999;may 9999=0;");
    }

    private static void depths() {
        Says s = Says.terms("I", "5 the 8th ( [ not that is open at once (not until its FACT ends), at it;");
        String[] ahead = {"gains ", "may ", "may "};
        String[] opens = {"(", "[", "not "};
        String[] inner = {"1", "all", "all"};
        String[] closes = {")", "]", ""};
        for (int k = 0; k < 3; k++) {
            s.good(ahead[k] + opens[k].repeat(7) + inner[k] + closes[k].repeat(7) + ";");
            s.faulty(ahead[k] + opens[k].repeat(8) + inner[k] + closes[k].repeat(8) + ";", 5,
                ahead[k].length() + 7 * opens[k].length());
        }
        s.good("gains min(max(if(all,min(max(if(all,min(1,2),3),4),5),6),7),8);");
        s.faulty("gains min(max(if(all,min(max(if(all,min((1),2),3),4),5),6),7),8);", 5, 40);
        s.faulty("gains (((((((min(1,2))))))));", 5, 16);
        s.faulty("gains (((((((max(1,2))))))));", 5, 16);
        s.faulty("gains (((((((if(all,1,2))))))));", 5, 15);
        s.good("may not[not[not[not 1=1]]];");
        s.faulty("may not[not[not[not[1=1]]]];", 5, 19);
        s.faulty("may not[not[not[not(1)=1]]];", 5, 19);
        s.faulty("may [[[[[[[not all]]]]]]];", 5, 11);
        s.faulty("may [[[[[[[(1)=1]]]]]]];", 5, 11);
        s.faulty("may 1=(((((((not", 1, 13);
    }

    private static void depthsEnd() {
        Says s = Says.terms("I", "that is open at once (not until its FACT ends)");
        String seven = "(((((((1)))))))";
        s.good("gains " + seven + "+" + seven + "*min(1,2)+((((((1))))));");
        s.good("may not 1=1 and " + seven + "=1;");
        s.good("may not not not 1=1 or not not not not not not not 1=1;");
        s.good("may [[[[[[[all]]]]]]]and[[[[[[[all]]]]]]];");
        s.faulty("may not 1=" + seven + ";", 5, 16);
        s.faulty("may not " + seven + "=1;", 5, 14);
        s.faulty("may not [1=1 and " + seven + "=1];", 5, 22);
        s.good("gains min(1," + "((((((1))))))" + ");");
        s.faulty("gains min(1," + seven + ");", 5, 18);
        s.good("gains if(not 1=1,((((((1)))))),((((((1))))))" + ");");
        s.faulty("gains if(not 1=1,1," + seven + ");", 5, 25);
        s.good("gains " + seven + ";may " + seven + "=1;");
        s.good("gains min(1,2)+" + seven + ";");
        s.good("gains max(1,2)*if(all,1,2)-" + seven + ";");
        s.good("may min(1,2)=1 and not 1=2 and[all]and [[[[[[[all]]]]]]];");
        StoneRaised x = new StoneRaised();
        for (String open : new String[] {"gains ((((", "may [[[[[[[", "may not not not", "gains min(if(["}) {
            s.due(open + " is refused", -1, Check.town(x, open));
            s.due("what was open in it is not so in the next", 2, Check.town(x, "gains " + seven + ";may [[[[[[[all]]]]]]];"));
        }
    }

    private static void tooMany() {
        Says kind = Says.terms("I", "6 one too many of a kind of STATEMENT (a second gains, may, too)");
        kind.faulty("gains 1; gains x", 6, 9);
        kind.faulty("may all; may x", 6, 9);
        kind.faulty(homes(6) + " home ha", 6, homes(6).length() + 1);
        kind.faulty("gains 1;gains1", 6, 8);
        kind.good("raised 1 to 2;raised 1 to 2;weighs 1;weighs 1;frost 1;frost 1;bites 1;bites 1;");
        Says last = Says.terms("I", "or the 81st STATEMENT (whatever it is), at its first byte.");
        String eighty = "bites 1;".repeat(79) + "gains 1;";
        String[] others = {"bites 1;", "gains 2;", "home h talk 1 warm 1;", "raised 0 to 0;", "x", "child", "abcdefg", "12345"};
        for (String other : others) {
            last.faulty(eighty + other, 6, 640);
            last.faulty(eighty + "\n " + other, 6, 642);
        }
        last.good(eighty);
        last.faulty(eighty.substring(8) + "x", 1, 632);
    }

    private static void firstAlong() {
        Says s = Says.terms("I", "FAULTS, the first along the text:");
        s.faulty("home h talk 10 warm 10;home h", 4, 12);
        s.faulty("home h talk 1 warm 1;home h talk 10", 2, 26);
        s.faulty(THREE + "feud x y", 3, 86);
        s.faulty("gains ((((((((;weighs 100;", 5, 13);
        s.faulty("weighs 100;gains 1;gains 1;", 4, 7);
        s.faulty("weighs 100 1", 4, 7);
        s.faulty("weighs 100x", 4, 7);
        s.faulty("raised 0 to 0", 4, 7);
        s.faulty("wall w wide 0 high 0", 4, 12);
    }
}
