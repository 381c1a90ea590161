/** Promises 20 and 21: seams, homes. */
public final class SeamsTest {
    private static final String HOMES = "home p talk 2 warm 4;home q talk 3 warm 3;home r talk 2 warm 7;";

    public static void main(String[] args) {
        fits();
        bornCounts();
        refusals();
        telling();
        empty();
        Check.finish();
    }

    private static int seams(StoneRaised x, int born, int... bytes) {
        Check.feed(x, Check.bytes(bytes));
        return x.seams(born);
    }

    private static void fits() {
        StoneRaised x = Check.with(HOMES + "raised 2 to 5;gains if(age=2,talk,warm);");
        Check.due("all at first", 7, x.homes(0));
        Check.due("one year, 2", 2, seams(x, 0, 1, 0, 2));
        Check.due("p and r", 5, x.homes(0));
        Check.due("one year, 3", 1, seams(x, 0, 1, 0, 3));
        Check.due("q", 2, x.homes(0));
        Check.due("two years, 6", 2, seams(x, 0, 2, 0, 6));
        Check.due("p and q", 3, x.homes(0));
        Check.due("two rows", 1, seams(x, 0, 2, 0, 6, 1, 0, 2));
        Check.due("p", 1, x.homes(0));
        Check.due("rows against one another", 0, seams(x, 0, 1, 0, 2, 1, 0, 3));
        Check.due("none", 0, x.homes(0));
        Check.due("no telling without a home", -1, x.homes(1));
        Check.due("three years", 1, seams(x, 0, 3, 0, 16));
        Check.due("r", 4, x.homes(0));
        Check.due("none is so strong", 0, seams(x, 0, 3, 1, 16));
        Check.due("nor can be", 0, seams(x, 0, 3, 255, 255));
        Check.due("not refused", 0, x.status(5));
        StoneRaised y = Check.with("home p talk 2 warm 4;raised 1 to 30;gains 99;");
        Check.due("two bytes, the higher first", 1, seams(y, 0, 5, 1, 239, 29, 3, 231));
    }

    private static void bornCounts() {
        StoneRaised x = Check.with(HOMES + "raised 1 to 3;gains talk*year+age;");
        Check.due("born 0: 2*1+1", 2, seams(x, 0, 1, 0, 3));
        Check.due("born 9: 2*10+1", 2, seams(x, 9, 1, 0, 21));
        Check.due("born 9: 3*10+1, 3*11+2", 1, seams(x, 9, 2, 0, 66));
        Check.due("q", 2, x.homes(0));
        Check.due("born 99", 0, seams(x, 99, 1, 0, 3));
        Check.due("born 99: 99 at most", 3, seams(x, 99, 1, 0, 99));
        x.years(50);
        x.go(0, 0);
        Check.due("the year now is another thing", 2, seams(x, 0, 1, 0, 3));
    }

    private static void refusals() {
        StoneRaised x = Check.with(HOMES + "raised 2 to 5;");
        seams(x, 3, 1, 0, 3);
        Check.due("q is told of", 2, x.homes(0));
        int[] sixteen = new int[48];
        int[] seventeen = new int[51];
        for (int k = 0; k < 17; k++) {
            seventeen[3 * k] = 1;
            seventeen[3 * k + 2] = 3;
        }
        System.arraycopy(seventeen, 0, sixteen, 0, 48);
        Check.due("no rows", -1, seams(x, 0));
        Check.due("a row cut off", -1, seams(x, 0, 1, 0));
        Check.due("a byte too many", -1, seams(x, 0, 1, 0, 2, 1));
        Check.due("17 rows", -1, seams(x, 0, seventeen));
        Check.due("0 years", -1, seams(x, 0, 0, 0, 0));
        Check.due("4 years", -1, seams(x, 0, 4, 0, 8));
        Check.due("255 years", -1, seams(x, 0, 1, 0, 2, 255, 0, 8));
        Check.due("born -1", -1, seams(x, -1, 1, 0, 2));
        Check.due("born 100", -1, seams(x, 100, 1, 0, 2));
        Check.due("refused", 9, x.status(5));
        Check.due("the tape went", false, x.end(1));
        Check.due("q still", 2, x.homes(0));
        Check.due("16 rows", 1, seams(x, 99, sixteen));
        Check.due("what 2", -1, x.homes(2));
        Check.due("what -1", -1, x.homes(-1));
    }

    private static void telling() {
        StoneRaised x = Check.with(HOMES + "raised 2 to 5;gains if(age=2,talk,warm);");
        // Behind 1 year 2 3 2, behind 2 years 6 6 9, behind 3 years 10 9 16.
        Check.due("all unlike behind 3 years", 3, x.homes(1));
        seams(x, 0, 1, 0, 2);
        Check.due("p and r: behind 2 years", 2, x.homes(1));
        seams(x, 0, 2, 0, 6);
        Check.due("p and q: behind 1 year", 1, x.homes(1));
        StoneRaised y = Check.with("home p talk 2 warm 4;home q talk 2 warm 4;");
        Check.due("never unlike: the least", 1, y.homes(1));
        StoneRaised z = Check.with(HOMES + "raised 1 to 4;gains if(year=7,talk,warm*0);");
        Check.due("born in 0 none tells", 1, z.homes(1));
        seams(z, 5, 1, 0, 0);
        Check.due("all fit", 7, z.homes(0));
        Check.due("born in 5 the second year tells", 2, z.homes(1));
        z.years(1);
        z.undo();
        Check.due("acts leave it", 2, z.homes(1));
        Check.on(z, Check.imageOf(z));
        Check.due("images leave it", 2, z.homes(1));
        seams(z, 100, 1, 0, 0);
        Check.due("a refused one leaves it", 2, z.homes(1));
    }

    private static void empty() {
        StoneRaised x = new StoneRaised();
        Check.due("no homes", 0, x.homes(0));
        Check.due("no telling", -1, x.homes(1));
        Check.due("of no homes none", 0, seams(x, 0, 14, 0, 0));
        Check.due("7 to 21: 14 years at most", -1, seams(x, 0, 15, 0, 0));
        Check.due("refused", 1, x.status(5));
    }
}
