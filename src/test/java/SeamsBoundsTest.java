/** The boundary sentences of promises 20 and 21: seams, homes. */
public final class SeamsBoundsTest {
    private static final String HOMES = "home p talk 2 warm 4;home q talk 3 warm 3;home r talk 2 warm 7;";
    private static final int[] FAR = {Integer.MIN_VALUE, -1, Integer.MAX_VALUE};

    public static void main(String[] args) {
        rows();
        rowsRefused();
        years();
        born();
        strengths();
        refusedAlone();
        homes();
        telling();
        tellingEdges();
        Check.finish();
    }

    private static int seams(StoneRaised x, int born, int... bytes) {
        Check.feed(x, Check.bytes(bytes));
        return x.seams(born);
    }

    /** So many bytes of rows that tell one YEAR and strength 3. */
    private static int[] bytes(int size) {
        int[] row = new int[size];
        for (int k = 0; k < size; k++) {
            row[k] = k % 3 == 0 ? 1 : k % 3 == 1 ? 0 : 3;
        }
        return row;
    }

    private static void rows() {
        Says s = Says.promise(20, "The tape (it goes) tells SEAMS, 1 to 16 rows of three bytes, YEARS, strength (two bytes, the higher "
            + "first), of a CHILD born in a YEAR (0 .. 99): how many HOMES it can be;");
        StoneRaised x = Check.with(HOMES + "raised 1 to 4;");
        for (int rows = 1; rows <= 16; rows++) {
            s.due(rows + " rows", 1, seams(x, 0, bytes(3 * rows)));
            s.due(rows + " rows: the tape went", false, x.end(1));
        }
        s.due("two HOMES", 2, seams(x, 0, 1, 0, 2));
        s.due("no HOME", 0, seams(x, 0, 1, 0, 4));
        s.due("rows told twice", 1, seams(x, 0, 2, 0, 6, 2, 0, 6, 1, 0, 3));
        s.due("rows against one another", 0, seams(x, 0, 1, 0, 3, 1, 0, 2));
        s.due("the last of 16 rows counts", 0, seams(x, 0, last(16)));
        s.due("not refused", 0, x.status(5));
    }

    private static int[] last(int rows) {
        int[] row = bytes(3 * rows);
        row[3 * rows - 1] = 2;
        return row;
    }

    private static void rowsRefused() {
        Says s = Says.promise(20, "NONE, refused (5), when it is none such.");
        StoneRaised x = Check.with(HOMES + "raised 1 to 4;");
        int[] sizes = {0, 1, 2, 4, 5, 7, 46, 47, 49, 50, 51, 54, 1600};
        for (int k = 0; k < sizes.length; k++) {
            s.due(sizes[k] + " bytes", -1, seams(x, 0, bytes(sizes[k])));
            s.due(sizes[k] + " bytes: refused", k + 1, x.status(5));
            s.due(sizes[k] + " bytes: the tape went", false, x.end(1));
        }
        s.due("all HOMES still", 7, x.homes(0));
    }

    private static void years() {
        Says s = Says.terms("III", "SEAMS are rows of how many YEARS a stone was RAISED (1 and on, as many as one raises at most), how strong "
            + "it was behind them: HOMES in which a CHILD born in a told YEAR can have been all that time.");
        int[][] spans = {{1, 2}, {7, 21}, {1, 30}, {29, 30}, {3, 6}};
        for (int[] span : spans) {
            int most = span[1] - span[0];
            StoneRaised x = Check.with("home p talk 2 warm 4;raised " + span[0] + " to " + span[1] + ";");
            String when = span[0] + " to " + span[1] + ": ";
            s.due(when + "0 YEARS", -1, seams(x, 0, 0, 0, 0));
            s.due(when + "1 YEAR", 1, seams(x, 0, 1, 0, 2));
            s.due(when + "as many as at most", 1, seams(x, 0, most, 0, 2 * most));
            s.due(when + "one more", -1, seams(x, 0, most + 1, 0, 2 * most + 2));
            s.due(when + "255 YEARS", -1, seams(x, 0, 255, 0, 2));
            s.due(when + "a good row ahead of a bad one", -1, seams(x, 0, 1, 0, 2, most + 1, 0, 0));
            s.due(when + "a bad row ahead of a good one", -1, seams(x, 0, 0, 0, 0, 1, 0, 2));
        }
    }

    private static void born() {
        Says s = Says.promise(20, "of a CHILD born in a YEAR (0 .. 99): how many HOMES it can be;");
        StoneRaised x = Check.with(HOMES + "raised 2 to 4;gains max(0,year-99)*talk+age;");
        s.due("born in 0: in 2 and 3 AGE alone", 3, seams(x, 0, 2, 0, 5));
        s.due("born in 97: YEAR 99, still AGE alone", 3, seams(x, 97, 1, 0, 2));
        s.due("born in 98: YEAR 100", 2, seams(x, 98, 1, 0, 4));
        s.due("born in 99: YEARS 101, 102", 1, seams(x, 99, 2, 0, 6 + 2 + 9 + 3));
        s.due("q", 2, x.homes(0));
        s.due("born in 99: one YEAR", 2, seams(x, 99, 1, 0, 6));
        x.years(60);
        s.due("the YEAR now is nothing to it", 2, seams(x, 99, 1, 0, 6));
        Says none = Says.promise(20, "NONE, refused (5), when it is none such.");
        none.due("born in 100", -1, seams(x, 100, 1, 0, 6));
        for (int far : FAR) {
            none.due("born in " + far, -1, seams(x, far, 1, 0, 6));
        }
        none.due("refused", 4, x.status(5));
    }

    private static void strengths() {
        Says s = Says.promise(20, "strength (two bytes, the higher first)");
        StoneRaised x = Check.with("home p talk 2 warm 4;raised 1 to 30;gains 99;");
        s.due("255 and 256 are unlike", 0, seams(x, 0, 3, 0, 255));
        s.due("297", 1, seams(x, 0, 3, 1, 41));
        s.due("the lower byte first", 0, seams(x, 0, 3, 41, 1));
        s.due("990", 1, seams(x, 0, 10, 3, 222));
        s.due("999 at most", 1, seams(x, 0, 11, 3, 231));
        s.due("999 in the last YEAR", 1, seams(x, 0, 29, 3, 231));
        s.due("1000 no HOME has", 0, seams(x, 0, 11, 3, 232));
        s.due("65535 no HOME has", 0, seams(x, 0, 1, 255, 255));
        StoneRaised y = Check.with("home p talk 0 warm 4;home q talk 1 warm 4;gains talk-1;");
        s.due("0", 2, seams(y, 0, 14, 0, 0));
    }

    private static void refusedAlone() {
        Says s = Says.promise(20, "NONE, refused (5), when it is none such.");
        int[][] bad = {{}, {1, 0}, {0, 0, 0}, {3, 0, 0}, {1, 0, 9, 1}, bytes(51)};
        for (int[] bytes : bad) {
            Scene.refused(s, bytes.length + " bytes", 5, true, x -> {
                x.end(0);
                seams(x, 0, bytes);
            });
        }
        for (int born : new int[] {-1, 100}) {
            Scene.refused(s, "born in " + born, 5, true, x -> {
                x.end(0);
                seams(x, born, 1, 0, 4);
            });
        }
    }

    private static void homes() {
        Says s = Says.promise(21, "Of the latest seams() of this TOWN that was not refused (without one: all HOMES, born in YEAR 0): HOMES as "
            + "bits (what 0), TELLING (1; NONE without a HOME).");
        StoneRaised none = new StoneRaised();
        s.due("a new object's HOMES", 0, none.homes(0));
        s.due("a new object's TELLING", -1, none.homes(1));
        StoneRaised x = Check.with(HOMES + "raised 1 to 4;gains if(age=1,talk,warm)+max(0,year-9);");
        s.due("without one: all HOMES", 7, x.homes(0));
        // Behind 1 YEAR 2 3 2, behind 2 6 6 9, behind 3 10 9 16.
        s.due("without one: TELLING", 3, x.homes(1));
        s.due("p and r", 2, seams(x, 0, 1, 0, 2));
        s.due("p and r", 5, x.homes(0));
        s.due("they are told apart by 2", 2, x.homes(1));
        s.due("a refused one", -1, seams(x, 0, 9, 0, 2));
        s.due("p and r still", 5, x.homes(0));
        s.due("the latest one", 1, seams(x, 0, 1, 0, 3));
        s.due("q", 2, x.homes(0));
        s.due("one HOME: 1 tells as much as any", 1, x.homes(1));
        s.due("none", 0, seams(x, 0, 1, 0, 4));
        s.due("no HOME", 0, x.homes(0));
        s.due("no TELLING", -1, x.homes(1));
        x.years(3);
        x.undo();
        s.due("acts leave it", 0, x.homes(0));
        Check.town(x, HOMES);
        s.due("another TOWN: all HOMES", 7, x.homes(0));
        Check.town(x, "x");
        s.due("a refused TOWN leaves it", 7, x.homes(0));
        Says others = Says.promise(21, "NONE for others.");
        others.due("what 2", -1, x.homes(2));
        for (int far : FAR) {
            others.due("what " + far, -1, x.homes(far));
        }
    }

    private static void telling() {
        Says s = Says.terms("III", "TELLING is how many YEARS (1 and on, as many as one raises at most) by which, whatever the strength is, the "
            + "most HOMES left are fewest; of like ones the least.");
        String two = "home p talk 1 warm 0;home q talk 2 warm 0;";
        for (int last = 2; last <= 30; last += 7) {
            String text = two + "raised 1 to " + last + ";gains if(age=" + (last - 1) + ",talk,5);";
            s.due("by the last YEAR alone, raised to " + last, last - 1, Check.with(text).homes(1));
        }
        s.due("by none: the least", 1, Check.with("home p talk 1 warm 0;home q talk 1 warm 0;").homes(1));
        s.due("by all: the least", 1, Check.with(two).homes(1));
        s.due("HOMES alike again later", 1, Check.with(two + "gains if(age=7,talk,3-talk);").homes(1));
        s.due("gains by the strength behind the YEARS ahead", 2, Check.with(two + "gains if(strong=5,talk,5);").homes(1));
        StringBuilder six = new StringBuilder();
        for (char name = 'a'; name < 'g'; name++) {
            six.append("home ").append(name).append(" talk 1 warm ").append((char) ('0' + name - 'a')).append(";");
        }
        s.due("six HOMES that are alike all the time", 1, Check.with(six.toString()).homes(1));
        s.due("six HOMES, unlike by the last YEAR", 14, Check.with(six + "gains if(age=20,warm,1);").homes(1));
        s.due("six HOMES, five alike by the third YEAR", 3, Check.with(six + "gains if(age=9 and warm=3,2,1);").homes(1));
        s.due("six HOMES, the first and the last apart by the second", 2, Check.with(six + "gains if(age=8 and[warm=0 or warm=5],2,1);").homes(1));
        // Behind 1 YEAR three alike, behind 2 two and two, behind 3 three alike.
        String four = "home p talk 1 warm 0;home q talk 1 warm 1;home r talk 1 warm 2;home t talk 4 warm 3;";
        s.due("two at most rather than three", 2,
            Check.with(four + "raised 1 to 4;gains if(age=1,talk,if(age=2,if(warm<2,4,if(warm=2,5,2)),if(warm<2,1,if(warm=2,0,3))));").homes(1));
    }

    private static void tellingEdges() {
        Says s = Says.promise(21, "(without one: all HOMES, born in YEAR 0)");
        String text = "home p talk 1 warm 0;home q talk 2 warm 0;raised 1 to 5;gains if(year=3,talk,5);";
        StoneRaised x = Check.with(text);
        s.due("born in 0: YEAR 3 is the third", 3, x.homes(1));
        s.due("born in 2", 2, seams(x, 2, 2, 0, 5) + seams(x, 1, 1, 0, 5));
        s.due("born in 1: YEAR 3 is the second", 2, x.homes(1));
        s.due("born in 99: it never is", 2, seams(x, 99, 1, 0, 5));
        s.due("the least", 1, x.homes(1));
        Check.town(x, text);
        s.due("another TOWN: born in 0 again", 3, x.homes(1));
    }
}
