import java.nio.charset.StandardCharsets;
import java.util.Map;

/** The boundary sentences of promises 1 to 5: a new object, the tape, a town that is read or refused. */
public final class TapeBoundsTest {
    private static final String LINE = "bites 1;";

    public static void main(String[] args) {
        newObject();
        feed();
        feedBeyond();
        end();
        endRefused();
        townCounts();
        townRefused();
        townAsAtFirst();
        townsOneByOne();
        fault();
        Check.finish();
    }

    private static void newObject() {
        Says s = Says.promise(1, "No HOMES, no CHILDREN; the seed is 1.");
        StoneRaised x = new StoneRaised();
        int[] want = {0, 0, 0, 0, 0, 0, 0, 0, 0, 0, 0, 1};
        for (int what = 0; what < want.length; what++) {
            s.due("has(" + what + ")", want[what], x.has(what));
        }
        s.due("home 0", -1, x.home(0, 0));
        s.due("child 0", -1, x.child(0, 0));
        s.due("stone 0", -1, x.stone(0, 0));
        s.due("wall 0", -1, x.wall(0, 0));
        s.due("the tape is empty", false, x.end(1));
        s.due("raised 7 to 21: 14 YEARS", 0, seams(x, 14));
        s.due("raised 7 to 21: not 15", -1, seams(x, 15));
        s.due("no frost", 0, x.chance(100));
    }

    private static int seams(StoneRaised x, int years) {
        Check.feed(x, Check.bytes(years, 0, 0));
        return x.seams(0);
    }

    private static StoneRaised fed(int times) {
        StoneRaised x = new StoneRaised();
        for (int k = 0; k < times; k++) {
            x.feed(0x20202020, 0x20202020, 0x20202020, 0x20202020, 0x20202020);
        }
        return x;
    }

    private static void feed() {
        Says s = Says.promise(2, "Twenty bytes come behind those on the tape, of each number the highest first: how many there are;");
        StoneRaised x = new StoneRaised();
        s.due("the first", 20, x.feed(0x686f6d65, 0x20686c64, 0x20746c6b, 0, -1));
        x.end(7);
        s.due("behind 7", 27, x.feed(0x2074616c, 0x6b203020, 0x7761726d, 0x20393b20, 0x20202020));
        s.due("home hl talk 0 warm 9;", 1, x.town());
        s.due("l", 12, x.letter(0, 0, 1));
        s.due("warmth", 9, x.home(0, 1));
        s.due("the tape went", 20, x.feed(0, 0, 0, 0, 0));
        StoneRaised y = new StoneRaised();
        y.feed(0xffffff80, 0x80ff01ff, 0x7fffffff, 0x80000000, -1);
        y.end(3);
        s.due("three bytes of 255 are no SEAMS of 255 YEARS", -1, y.seams(0));
    }

    private static void feedBeyond() {
        Says s = Says.promise(2, "NONE, refused (0), if there would be more than 1600.");
        StoneRaised x = fed(79);
        s.due("the 80th", 1600, x.feed(0x20202020, 0x20202020, 0x20202020, 0x20202020, 0x20202020));
        s.due("not refused", 0, x.status(0));
        s.due("the 81st", -1, x.feed(0x78787878, 0, 0, 0, 0));
        s.due("refused", 1, x.status(0));
        s.due("1600 stay", true, x.end(1600));
        s.due("blanks stay", 0, x.town());
        StoneRaised y = fed(80);
        y.end(1581);
        s.due("1601", -1, y.feed(0, 0, 0, 0, 0));
        s.due("1581 stay", false, y.end(1582));
        s.due("1581 stay", true, y.end(1581));
        y.end(1580);
        s.due("1600", 1600, y.feed(0, 0, 0, 0, 0));
        s.due("refused twice", 2, y.status(0));
        s.due("nothing else", 0, y.status(1) + y.status(2) + y.status(3) + y.status(4) + y.status(5));
    }

    private static void end() {
        Says s = Says.promise(3, "The tape has its first n bytes alone: true;");
        StoneRaised x = new StoneRaised();
        byte[] text = (LINE + "frost 1;xyz").getBytes(StandardCharsets.ISO_8859_1);
        s.due("an empty tape's 0", true, x.end(0));
        Check.feed(x, text);
        s.due("all of them", true, x.end(text.length));
        s.due("16", true, x.end(16));
        s.due("16 again", true, x.end(16));
        s.due("17 are gone", false, x.end(17));
        s.due("two STATEMENTS", 2, x.town());
        Check.feed(x, text);
        s.due("8", true, x.end(8));
        s.due("one STATEMENT", 1, x.town());
        Check.feed(x, text);
        s.due("0", true, x.end(0));
        s.due("an empty text", 0, x.town());
    }

    private static void endRefused() {
        Says s = Says.promise(3, "false, refused (0), if it has not so many, or n is below 0.");
        int[] bad = {Scene.LEFT.length() + 1, -1, Integer.MAX_VALUE, Integer.MIN_VALUE};
        for (int n : bad) {
            StoneRaised x = Scene.lively();
            s.due("end(" + n + ")", false, x.end(n));
            Scene.refused(s, "end(" + n + ")", 0, y -> y.end(n));
        }
        s.due("end(1) of an empty tape", false, new StoneRaised().end(1));
        s.due("end(1601) of a full one", false, fed(80).end(1601));
        s.due("end(1600) of a full one", true, fed(80).end(1600));
    }

    private static void townCounts() {
        Says s = Says.promise(4, "The tape (it goes) is THE TOWN: how many STATEMENTS;");
        StoneRaised x = new StoneRaised();
        s.due("none", 0, x.town());
        s.due("one", 1, Check.town(x, LINE));
        s.due("the tape went", false, x.end(1));
        s.due("80", 80, Check.town(x, LINE.repeat(80)));
        s.due("three of unlike kinds", 3, Check.town(x, Scene.HOME + LINE + "may all;"));
        s.due("the tape goes with a FAULT, too", -1, Check.town(x, "x"));
        s.due("it went", false, x.end(1));
        s.due("and is no part of the next", 1, Check.town(x, LINE));
    }

    private static void townRefused() {
        Says s = Says.promise(4, "NONE, refused (1), with a FAULT (all stays).");
        String[] bad = {"x", "home ha talk 1 warm 1;child c of ha born 5;x", "home ha talk 10 warm 1;", LINE.repeat(81),
            "may all;gains 5;wall w wide 4 high 4;raised 3 to 9;weighs 7;frost 9;bites 9;home h", "home y",
            "home h talk 1 warm 1;home h", "home h talk 1 warm 1;child c of c", "gains ((((((((1"};
        for (String text : bad) {
            StoneRaised x = Scene.lively();
            x.end(0);
            s.due(text, -1, Check.town(x, text));
            // fault() tells of the latest town(), so that alone is another one; the tape goes.
            StoneRaised without = Scene.lively();
            without.end(0);
            Map<String, Integer> want = Scene.all(without);
            want.merge("status(1)", 1, Integer::sum);
            want.put("fault(0)", x.fault(0));
            want.put("fault(1)", x.fault(1));
            Scene.alike(s, text, want, Scene.all(x));
        }
    }

    private static void townAsAtFirst() {
        Says s = Says.promise(4, "Without one all is as at first, nothing is KEPT or told of seams, no ACT can be undone; the seed stays.");
        StoneRaised x = Scene.lively();
        int seed = x.has(11);
        x.end(0);
        s.due("the same town once more", 16, Check.town(x, Scene.TOWN));
        StoneRaised y = Check.with(Scene.TOWN);
        y.seed(seed);
        for (int what = 0; what < 12; what++) {
            s.due("has(" + what + ")", y.has(what), x.has(what));
        }
        for (int child = 0; child < 3; child++) {
            for (int what = 0; what < 7; what++) {
                s.due("stone(" + child + ", " + what + ")", y.stone(child, what), x.stone(child, what));
                s.due("child(" + child + ", " + what + ")", y.child(child, what), x.child(child, what));
            }
        }
        s.due("nothing lies", -1, x.at(0, 0, 0));
        s.due("nothing is KEPT", -1, x.kept(0, 0));
        s.due("nothing told of seams", 3, x.homes(0));
        s.due("no ACT can be undone", false, x.undo());
        s.due("no FEUD is ended", 3, x.child(2, 3));
        s.due("YEAR 0", 0, x.has(5));
        s.due("the seed stays", seed, x.has(11));
        s.due("an empty town", 0, Check.town(x, ""));
        s.due("no HOMES", 0, x.has(0));
        s.due("no WALLS", 0, x.has(2));
        s.due("no FEUDS", 0, x.has(3));
        s.due("14 YEARS again", 0, seams(x, 14));
        s.due("no more again", -1, seams(x, 15));
        s.due("no frost again", 0, x.chance(100));
    }

    /** What a text does not tell is as without it, whatever the TOWNS ahead of it told, the refused ones, too. */
    private static void townsOneByOne() {
        Says s = Says.promise(4, "Without one all is as at first,");
        String full = Scene.TOWN + "raised 1 to 2;weighs 99;bites 99;frost 100;";
        String plain = "home hut talk 2 warm 9;child a of hut born 0;child b of hut born 0;child c of hut born 1;wall w wide 1 high 2;";
        String[] ahead = {full, plain, full + "x", plain + "gains 9;may not all;twins a b;feud a b;home h talk 10", "gains 9;may not all;x"};
        for (int which = 0; which < ahead.length * ahead.length; which++) {
            StoneRaised x = new StoneRaised();
            Check.town(x, ahead[which / ahead.length]);
            Check.town(x, ahead[which % ahead.length]);
            for (int times = 0; times < 3; times++) {
                s.due(which + ": STATEMENTS", 5, Check.town(x, plain));
                int[] want = {1, 3, 1, 0, 0, 0, 0, 0, 0, 0, 0, 1};
                for (int what = 0; what < want.length; what++) {
                    s.due(which + ": has(" + what + ")", want[what], x.has(what));
                }
                s.due(which + ": no twin", -1, x.child(0, 2));
                s.due(which + ": no FEUD", 0, x.child(1, 3));
                s.due(which + ": no HOME but one", 0, x.strongest(0, 0));
                x.years(7);
                s.due(which + ": RAISED from 7 on", 0, x.stone(0, 0));
                x.years(13);
                s.due(which + ": not DONE at 20", 1, x.stone(0, 1));
                s.due(which + ": both BUILT IN at 21", 2, x.years(1));
                s.due(which + ": 14 times talk", 28, x.stone(0, 0));
                s.due(which + ": weighs 10", 10, x.stone(0, 5));
                s.due(which + ": bears all", 28, x.stone(0, 6));
                s.due(which + ": bites 5, so that 23 bear 10", 0, x.props(0));
                s.due(which + ": no WALL but one", -1, x.wall(1, 0));
                s.due(which + ": a WALL one wide", -1, x.wall(0, 11));
                s.due(which + ": no WALL for the third one", 0, x.years(1));
                s.due(which + ": told with gains", 6, Check.town(x, "gains 1;" + plain));
                s.due(which + ": told with may", 6, Check.town(x, plain + "may all;"));
            }
        }
    }

    private static void fault() {
        Says s = Says.promise(5, "Of the latest town(): its FAULT (what 0; 0 without, and ahead of any), its place (1; NONE without).");
        StoneRaised x = new StoneRaised();
        told(s, x, "ahead of any", 0, -1);
        Check.town(x, LINE);
        told(s, x, "without", 0, -1);
        Check.town(x, "x");
        told(s, x, "at place 0", 1, 0);
        Check.town(x, "weighs 100;");
        told(s, x, "of the latest", 4, 7);
        x.years(0);
        x.end(5);
        told(s, x, "no other call is told", 4, 7);
        Check.town(x, "");
        told(s, x, "without again", 0, -1);
        Says others = Says.promise(5, "NONE for another what.");
        Check.town(x, "home");
        int[] what = {-1, 2, Integer.MAX_VALUE, Integer.MIN_VALUE};
        for (int w : what) {
            others.due("fault(" + w + ")", -1, x.fault(w));
        }
    }

    private static void told(Says s, StoneRaised x, String when, int kind, int place) {
        s.due(when + ": fault(0)", kind, x.fault(0));
        s.due(when + ": fault(1)", place, x.fault(1));
    }
}
