/** Promises 1 to 5: a new object, feed, end, town, fault; with the language of a town's text. */
public final class TownTest {
    private static final String HOME = "home h talk 1 warm 1;";
    private static final String TWO = HOME + "child c of h born 1;child d of h born 1;";

    public static void main(String[] args) {
        newObject();
        tape();
        townGoes();
        goodTexts();
        limits();
        noTown();
        endsTooSoon();
        glued();
        names();
        numbers();
        depths();
        tooMany();
        sums();
        tests();
        settings();
        Check.finish();
    }

    private static void newObject() {
        StoneRaised x = new StoneRaised();
        int[] want = {0, 0, 0, 0, 0, 0, 0, 0, 0, 0, 0, 1};
        for (int what = 0; what < want.length; what++) {
            Check.due("new: has(" + what + ")", want[what], x.has(what));
        }
        Check.due("new: fault(0)", 0, x.fault(0));
        Check.due("new: fault(1)", -1, x.fault(1));
        Check.due("new: fault(2)", -1, x.fault(2));
        Check.due("new: fault(-1)", -1, x.fault(-1));
        Check.due("new: octet(0)", -1, x.octet(0));
        Check.due("NONE", -1, StoneRaised.NONE);
    }

    private static void tape() {
        StoneRaised x = new StoneRaised();
        for (int k = 1; k <= 80; k++) {
            Check.due("feed " + k, 20 * k, x.feed(k, k, k, k, k));
        }
        Check.due("feed beyond 1600", -1, x.feed(1, 1, 1, 1, 1));
        Check.due("refused", 1, x.status(0));
        Check.due("end(1601)", false, x.end(1601));
        Check.due("end(-1)", false, x.end(-1));
        Check.due("refused", 3, x.status(0));
        Check.due("end(1581)", true, x.end(1581));
        Check.due("feed to 1601", -1, x.feed(1, 1, 1, 1, 1));
        Check.due("end(1580)", true, x.end(1580));
        Check.due("feed to 1600", 1600, x.feed(1, 1, 1, 1, 1));
        Check.due("end(0)", true, x.end(0));
        Check.due("end(0) again", true, x.end(0));
        Check.due("end(1)", false, x.end(1));
        Check.due("feed from 0", 20, x.feed(-1, -1, -1, -1, -1));
    }

    private static void townGoes() {
        StoneRaised x = Check.with(TWO + "twins c d;");
        Check.due("statements", 4, Check.town(x, TWO + "feud c d;"));
        x.seed(77);
        x.years(3);
        x.peace(0);
        Check.feed(x, Check.bytes(1, 0, 9));
        x.seams(3);
        Check.due("homes after seams", 0, x.homes(0));
        Check.due("faulty town", -1, Check.town(x, HOME + "x"));
        Check.due("fault stays told", 1, x.fault(0));
        Check.due("its place", 21, x.fault(1));
        Check.due("all stays: year", 3, x.has(5));
        Check.due("all stays: acts", 2, x.has(10));
        Check.due("all stays: feuds not ended", 0, x.has(4));
        Check.due("all stays: seams", 0, x.homes(0));
        Check.due("the tape went", false, x.end(1));
        Check.due("a good town", 3, Check.town(x, TWO));
        Check.due("no fault now", 0, x.fault(0));
        Check.due("no place now", -1, x.fault(1));
        Check.due("the tape went", false, x.end(1));
        Check.due("year as at first", 0, x.has(5));
        Check.due("no feuds", 0, x.has(3));
        Check.due("nothing can be undone", 0, x.has(10));
        Check.due("nothing told of seams", 1, x.homes(0));
        Check.due("the seed stays", 77, x.has(11));
        Check.due("no twins", -1, x.child(0, 2));
        Check.due("refused towns", 1, x.status(1));
        Check.due("an empty town", 0, Check.town(x, ""));
        Check.due("no homes", 0, x.has(0));
        Check.due("blanks alone", 0, Check.town(x, " \n \n"));
    }

    private static void goodTexts() {
        Check.faulty("", 0, -1);
        Check.faulty("weighs 1;weighs 2;frost 3;bites 4;raised 1 to 2;raised 29 to 30;", 0, -1);
        Check.faulty("\nhome\nh\ntalk 0009 warm\n\n0 ; ", 0, -1);
        Check.faulty("gains(talk+1)*2;may[all]and not 1<2or 3=4;", 1, 35);
        Check.faulty("gains(talk+1)*2;may[all]and not 1<2 or 3=4;", 0, -1);
        Check.faulty("home abcdef talk 0 warm 9;wall abcdeg wide 1 high 4;", 0, -1);
        Check.faulty("home homes talk 0 warm 9;child ho of homes born 99;", 0, -1);
    }

    private static void limits() {
        StringBuilder text = new StringBuilder();
        for (char c = 'a'; c < 'a' + 6; c++) {
            text.append("home h").append(c).append(" talk 1 warm 1;");
        }
        String homes = text.toString();
        Check.faulty(homes, 0, -1);
        Check.faulty(homes + " home", 6, homes.length() + 1);
        for (char c = 'a'; c < 'a' + 8; c++) {
            text.append("child c").append(c).append(" of ha born 0;");
        }
        String children = text.toString();
        Check.faulty(children, 0, -1);
        Check.faulty(children + "child", 6, children.length());
        for (char c = 'b'; c < 'b' + 7; c++) {
            text.append("feud ca c").append(c).append(";");
        }
        text.append("feud cb cc;feud cb cd;feud cb ce;");
        String feuds = text.toString();
        Check.faulty(feuds, 0, -1);
        Check.faulty(feuds + "feud ca ca", 6, feuds.length());
        String walls = "wall a wide 1 high 1;wall b wide 1 high 1;wall c wide 1 high 1;wall d wide 1 high 1;";
        Check.faulty(walls, 0, -1);
        Check.faulty(walls + "wall e wide 9", 6, walls.length());
        String eighty = "bites 1;".repeat(80);
        Check.due("80 statements", 80, Check.town(new StoneRaised(), eighty));
        Check.faulty(eighty + " bites 1;", 6, eighty.length() + 1);
        Check.faulty(eighty + "gains", 6, eighty.length());
        Check.faulty(eighty + "abcdefgh", 6, eighty.length());
        Check.faulty(eighty + "\n12345", 6, eighty.length() + 1);
        Check.faulty(eighty + ")", 6, eighty.length());
        Check.faulty(eighty + " \n", 0, -1);
        Check.faulty(eighty.substring(8) + "abcdefgh", 1, eighty.length() - 2);
    }

    private static void noTown() {
        Check.faulty("x", 1, 0);
        Check.faulty(";", 1, 0);
        Check.faulty("home h talk 1 warm 1;;", 1, 21);
        Check.faulty("hom", 1, 0);
        Check.faulty("Home", 1, 0);
        Check.faulty("talk 1;", 1, 0);
        Check.faulty("home h warm 1", 1, 7);
        Check.faulty("home 7", 1, 5);
        Check.faulty("home\th", 1, 4);
        Check.faulty("home h\rtalk", 1, 6);
        Check.faulty("weighs x", 1, 7);
        Check.faulty("weighs -1", 1, 7);
        Check.faulty("weighs 1 2;", 1, 9);
        Check.faulty("raised 1 2", 1, 9);
        Check.faulty("gains -1", 1, 6);
        Check.faulty("gains 1+;", 1, 8);
        Check.faulty("gains 1 1", 1, 8);
        Check.faulty("gains 1<2", 1, 7);
        Check.faulty("gains all", 1, 6);
        Check.faulty("gains not", 1, 6);
        Check.faulty("gains [", 1, 6);
        Check.faulty("gains min 1", 1, 10);
        Check.faulty("gains min(1)", 1, 11);
        Check.faulty("gains max(1,2,3)", 1, 13);
        Check.faulty("gains if(1,2,3)", 1, 10);
        Check.faulty("gains if(left=1", 1, 9);
        Check.faulty("gains (under", 1, 7);
        Check.faulty("gains talk)", 1, 10);
        Check.faulty("may 1", 1, 5);
        Check.faulty("may 1;", 1, 5);
        Check.faulty("may 1<2<3", 1, 7);
        Check.faulty("may (1<2)", 1, 6);
        Check.faulty("may [1<2)", 1, 8);
        Check.faulty("may all all", 1, 8);
        Check.faulty("may not;", 1, 7);
        Check.faulty("may or", 1, 4);
        Check.faulty("may 1=<2", 1, 6);
        Check.faulty("home abcdefg", 1, 11);
        Check.faulty("abcdefgh", 1, 6);
        Check.faulty("weighs 12345", 1, 11);
        Check.faulty("home h talk 1 12345", 1, 18);
        Check.faulty("may course=left+under;gains talk % \u00e9", 1, 35);
    }

    private static void endsTooSoon() {
        Check.faulty("home", 1, 4);
        Check.faulty("home ", 1, 5);
        Check.faulty("home h", 1, 6);
        Check.faulty("home h talk 1 warm 1", 1, 20);
        Check.faulty("home h talk 1 warm 1 \n", 1, 22);
        Check.faulty("gains", 1, 5);
        Check.faulty("gains (1", 1, 8);
        Check.faulty("gains 1", 1, 7);
        Check.faulty("may not", 1, 7);
        Check.faulty("may [all", 1, 8);
        Check.faulty("raised 1 to", 1, 11);
    }

    private static void glued() {
        Check.faulty("weighs1;", 1, 6);
        Check.faulty("home h2", 1, 6);
        Check.faulty("home h talk 1warm 1;", 1, 13);
        Check.faulty("foo1", 1, 0);
        Check.faulty("weighs 100x", 4, 7);
        Check.faulty("gains 1*talk;", 0, -1);
        Check.faulty("gains(1)min(1,2);", 1, 8);
        Check.faulty("gains 2talk", 1, 7);
        Check.faulty("child d of h born 1ragains 1;", 3, 11);
        Check.faulty(HOME + "child d of h born 1ragains 1;", 1, 40);
        Check.faulty("weighs 1abcdefg", 1, 8);
        Check.faulty("weighs 100abcdefg", 4, 7);
        Check.faulty("weighs 12345abcdefg", 1, 11);
        Check.faulty("weighs12345;", 1, 6);
        Check.faulty("home h12345", 1, 6);
        Check.faulty("home abcdef12345", 1, 11);
        Check.faulty("home abcdefg12345", 1, 11);
        Check.faulty("gains talk12345", 1, 10);
        Check.faulty("gains 1+2strongly", 1, 9);
        Check.faulty("may 1<2andabcdef", 1, 7);
        Check.faulty("abcdef12345", 1, 0);
    }

    private static void names() {
        Check.faulty("home of", 1, 5);
        Check.faulty("child home", 1, 6);
        Check.faulty(HOME + "child c of talk", 1, 32);
        Check.faulty(HOME + "home h", 2, 26);
        Check.faulty(HOME + "child h", 2, 27);
        Check.faulty(TWO + "wall d", 2, 66);
        Check.faulty("wall w wide 1 high 1;home w", 2, 26);
        Check.faulty(HOME + "child c of c", 3, 32);
        Check.faulty(TWO + "child e of c", 3, 72);
        Check.faulty("child c of h", 3, 11);
        Check.faulty(TWO + "twins h", 3, 67);
        Check.faulty(TWO + "twins c h", 3, 69);
        Check.faulty(TWO + "twins c c", 3, 69);
        Check.faulty(TWO + "twins c 1", 1, 69);
        Check.faulty(TWO + "twins c all", 1, 69);
        Check.faulty(TWO + "twins c d;twins c", 3, 77);
        String three = TWO + "child e of h born 0;";
        Check.faulty(three + "twins c d;twins e d", 3, 99);
        Check.faulty(TWO + "feud e", 3, 66);
        Check.faulty(TWO + "feud c c", 3, 68);
        Check.faulty(TWO + "feud c d;feud c d", 3, 77);
        Check.faulty(TWO + "feud c d;feud d c", 3, 77);
        Check.faulty(three + "feud c d;feud d e;feud e c;", 0, -1);
        Check.faulty(TWO + "twins c d;feud c d;", 0, -1);
    }

    private static void numbers() {
        Check.faulty("home h talk 10", 4, 12);
        Check.faulty("home h talk 1 warm 10", 4, 19);
        Check.faulty("home h talk 9999", 4, 12);
        Check.faulty(HOME + "child c of h born 100", 4, 39);
        Check.faulty("wall w wide 0", 4, 12);
        Check.faulty("wall w wide 5", 4, 12);
        Check.faulty("wall w wide 4 high 0", 4, 19);
        Check.faulty("wall w wide 4 high 5", 4, 19);
        Check.faulty("raised 0", 4, 7);
        Check.faulty("raised 31", 4, 7);
        Check.faulty("raised 5 to 5", 4, 12);
        Check.faulty("raised 5 to 4", 4, 12);
        Check.faulty("raised 5 to 31", 4, 12);
        Check.faulty("raised 30 to 30", 4, 13);
        Check.faulty("weighs 100", 4, 7);
        Check.faulty("weighs 99;frost 100;bites 99;", 0, -1);
        Check.faulty("frost 101", 4, 6);
        Check.faulty("bites 100", 4, 6);
        Check.faulty("gains 9999;", 0, -1);
    }

    private static void depths() {
        Check.faulty("gains (((((((1)))))));", 0, -1);
        Check.faulty("gains ((((((((1", 5, 13);
        Check.faulty("gains (1)+(((((((1)))))));", 0, -1);
        Check.faulty("may not not not not not not not all;", 0, -1);
        Check.faulty("may not not not not not not not not all;", 5, 32);
        Check.faulty("may not 1=1 and (((((((1)))))))=1;", 0, -1);
        Check.faulty("may not (((((((1", 5, 14);
        Check.faulty("may [[[[[[[all]]]]]]];", 0, -1);
        Check.faulty("may [[[[[[[[all", 5, 11);
        Check.faulty("may [not (min(max(if(all,(1),2),2),3))=1];", 0, -1);
        Check.faulty("may [not (min(max(if(all,((1),2", 5, 26);
        Check.faulty("gains ((((((( min (1", 5, 18);
    }

    private static void tooMany() {
        Check.faulty("gains 1;gains 2;", 6, 8);
        Check.faulty("may all;gains 1;may", 6, 16);
        Check.faulty("gains 1;may all; gains", 6, 17);
        Check.faulty("gains 1;x", 1, 8);
    }

    /** How strong a stone is behind its first year, which is 2, the child born in 1. */
    private static int gain(String sum) {
        StoneRaised x = Check.with("home h talk 3 warm 7;child c of h born 1;raised 1 to 9;gains " + sum + ";");
        x.years(3);
        return x.stone(0, 0);
    }

    private static void sum(String sum, int want) {
        Check.due("gains " + sum, want, gain(sum));
    }

    private static void sums() {
        sum("talk", 3);
        sum("warm*10+talk", 73);
        sum("age", 1);
        sum("year", 2);
        sum("strong+5", 5);
        sum("2+3*4", 14);
        sum("(2+3)*4", 20);
        sum("20-5-3", 12);
        sum("99/7*7", 98);
        sum("7*99%7", 0);
        sum("17%5*2", 4);
        sum("10+(0-7)/2", 6);
        sum("10+(0-7)%2", 11);
        sum("10+7/(0-2)", 6);
        sum("10+7%(0-2)", 9);
        sum("10+(0-7)%(0-2)", 9);
        sum("8+5/0", 8);
        sum("8+5%0", 8);
        sum("0-5", 0);
        sum("100", 99);
        sum("9999", 99);
        sum("9999*9999/9999-50", 50);
        sum("(0-9999)*9999/9999+150", 49);
        sum("9999*9999+1-9999*9999+1", 1);
        sum("9999*100+9999*100-9999*100-9", 91);
        sum("(0-9999)*100-9999*100+9999*100+110", 10);
        sum("9999*9999%9999-1", 99);
        sum("min(4,9)*max(4,9)", 36);
        sum("min(9,4)", 4);
        sum("if(talk<warm,11,22)", 11);
        sum("if(talk>warm,11,22)", 22);
        sum("if(talk=3,11,22)", 11);
        Check.due("talk without gains", 3 * 8, strongAfter("", 30));
        Check.due("gains by what it has", 1 + 2 + 4 + 8 + 16 + 32 + 64 + 99, strongAfter("gains strong+1;", 30));
        Check.due("gains by age", 1 + 2 + 3 + 4 + 5 + 6 + 7 + 8, strongAfter("gains age;", 30));
        Check.due("gains by year", 2 + 3 + 4 + 5 + 6 + 7 + 8 + 9, strongAfter("gains year;", 30));
        StoneRaised x = Check.with("home h talk 3 warm 7;child c of h born 1;raised 1 to 30;gains 99;");
        x.years(40);
        Check.due("999 at most", 999, x.stone(0, 0));
    }

    private static int strongAfter(String gains, int years) {
        StoneRaised x = Check.with("home h talk 3 warm 7;child c of h born 1;raised 1 to 9;" + gains);
        x.years(years);
        return x.stone(0, 0);
    }

    private static void test(String test, boolean want) {
        Check.due("test " + test, want ? 1 : 2, gain("if(" + test + ",1,2)"));
    }

    private static void tests() {
        test("all", true);
        test("not all", false);
        test("not not all", true);
        test("1<2", true);
        test("2<2", false);
        test("2>2", false);
        test("2=2", true);
        test("3>2", true);
        test("1=1 or 1=2 and 1=2", true);
        test("[1=1 or 1=2]and 1=2", false);
        test("not 1=1 or 1=1", true);
        test("not [1=1 or 1=1]", false);
        test("not 1=2 and 1=1", true);
        test("1=2 or 2=3 or 3=3", true);
        test("1=1 and 2=2 and 3=4", false);
        test("1+1=2 and(1+1)*2=4", true);
    }

    private static void settings() {
        StoneRaised x = Check.with("home h talk 2 warm 0;child a of h born 0;child b of h born 0;wall w wide 1 high 2;");
        x.years(7);
        Check.due("raised from 7 on", 1, x.stone(0, 1));
        Check.due("not strong so far", 0, x.stone(0, 0));
        x.years(13);
        Check.due("raised to 20", 1, x.stone(0, 1));
        x.years(1);
        Check.due("done at 21", 28, x.stone(0, 0));
        Check.due("built at once", 3, x.stone(1, 1));
        Check.due("weighs 10", 10, x.stone(0, 5));
        Check.due("frost 0", 0, x.chance(50));
        StoneRaised y = Check.with("home h talk 2 warm 0;child a of h born 0;child b of h born 0;wall w wide 1 high 2;"
            + "raised 3 to 9;raised 1 to 2;weighs 5;weighs 2;frost 0;frost 100;");
        y.years(2);
        Check.due("the last raised counts", 3, y.stone(0, 1));
        Check.due("the last weighs counts", 2, y.stone(0, 5));
        Check.due("the last frost counts", 1, y.chance(1));
        Check.due("bites 5", 0, y.stone(0, 0));
    }
}
