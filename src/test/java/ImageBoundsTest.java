import java.util.Arrays;
import java.util.function.Consumer;

/** The boundary sentences of promises 31 to 34: image, octet, on, status. */
public final class ImageBoundsTest {
    private static final int[] FAR = {Integer.MIN_VALUE, -1, Integer.MAX_VALUE};

    /** Scene.TOWN in YEAR 300: a below b in w, c on the shelf in g, 600 strong; the second feud is ended. */
    private static final int[] GOOD = {1, 44, 0, 0, 18, 1, 0, 0, 0, 0, 17, 1, 0, 1, 1, 2, 88, 0, 0, 0, 0, 1};

    public static void main(String[] args) {
        image();
        imageBytes();
        octet();
        on();
        years();
        strengths();
        homes();
        places();
        doneAlone();
        rests();
        feuds();
        lengths();
        sums();
        forgets();
        ofAnotherTown();
        refusedAlone();
        status();
        statusOfEach();
        Check.finish();
    }

    private static int[] changed(int... changes) {
        int[] row = GOOD.clone();
        for (int k = 0; k < changes.length; k += 2) {
            row[changes[k]] = changes[k + 1];
        }
        return row;
    }

    /** Whether an image with some bytes changed is one of the town; if it is, it is written so again. */
    private static void can(Says s, String why, boolean want, int... changes) {
        byte[] row = Check.summed(changed(changes));
        StoneRaised x = Check.with(Scene.TOWN);
        x.years(1);
        s.due(why, want, Check.on(x, row));
        s.due(why + ": refused", want ? 0 : 1, x.status(5));
        s.due(why + ": the tape went", false, x.end(1));
        s.due(why + ": YEAR", want ? (row[0] & 255) * 256 + (row[1] & 255) : 1, x.has(5));
        s.due(why + ": ACTS", want ? 0 : 1, x.has(10));
        if (want) {
            s.due(why + ": all is as it tells", true, Arrays.equals(row, Check.imageOf(x)));
        }
    }

    private static void image() {
        Says s = Says.promise(31, "AN IMAGE is written: how many bytes.");
        s.due("no CHILD, no FEUD", 3, new StoneRaised().image());
        s.due("one CHILD", 9, Check.with(Scene.HOME + Scene.children(1)).image());
        s.due("two CHILDREN, one FEUD", 16, Check.with(Scene.HOME + Scene.children(2) + "feud a b;").image());
        String ten = "feud a b;feud a c;feud a d;feud a e;feud b c;feud b d;feud b e;feud c d;feud c e;feud h g;";
        StoneRaised x = Check.with(Scene.HOME + Scene.children(8) + ten);
        s.due("8 CHILDREN, 10 FEUDS", 61, x.image());
        x.peace(9);
        s.due("ended ones, too", 61, x.image());
        s.due("the last of them", 1, x.octet(59));
        s.due("the one ahead of it", 0, x.octet(58));
        s.due("behind the last byte", -1, x.octet(61));
    }

    private static void imageBytes() {
        Says s = Says.terms("III", "AN IMAGE: YEAR (two bytes, the higher first); for each CHILD his HOME, how strong his stone is (two bytes), "
            + "the WALL it is BUILT IN and 1 (0: none), its column, its course (0, 0 without); for each FEUD 1 if it was ended, else 0; "
            + "last a byte: all ahead from 167 on, c = (5 c + it) mod 251.");
        StoneRaised empty = new StoneRaised();
        empty.image();
        bytes(s, empty, 0, 0, 167 * 25 % 251);
        String walls = "wall p wide 1 high 1;wall q wide 1 high 1;wall r wide 1 high 1;wall t wide 4 high 4;weighs 0;raised 1 to 2;";
        StoneRaised x = Check.with("home g talk 1 warm 1;" + Scene.HOME + Scene.children(4) + "feud a b;feud c b;" + walls);
        int[] row = {3, 231, 1, 3, 231, 4, 3, 0, 0, 1, 0, 4, 3, 1, 1, 0, 255, 0, 0, 0, 0, 0, 0, 1, 0, 0, 0, 1};
        s.due("on", true, Check.on(x, Check.summed(row)));
        s.due("28 and one", 29, x.image());
        byte[] all = Check.summed(row);
        for (int k = 0; k < all.length; k++) {
            s.due("octet(" + k + ")", all[k] & 255, x.octet(k));
        }
        x.pull(1);
        x.go(1, 1);
        x.image();
        s.due("PULLED: no WALL", 0, x.octet(11));
        s.due("PULLED: no column", 0, x.octet(12));
        s.due("PULLED: no course", 0, x.octet(13));
        s.due("another HOME", 1, x.octet(8));
    }

    private static void bytes(Says s, StoneRaised x, int... want) {
        for (int k = 0; k < want.length; k++) {
            s.due("octet(" + k + ")", want[k], x.octet(k));
        }
        s.due("octet(" + want.length + ")", -1, x.octet(want.length));
    }

    private static void octet() {
        Says s = Says.promise(32, "Byte k of the latest image(); NONE when there is none such.");
        StoneRaised x = Check.with(Scene.HOME + Scene.children(1) + "raised 1 to 2;");
        s.due("ahead of any image", -1, x.octet(0));
        for (int far : FAR) {
            s.due("octet(" + far + ") ahead of any", -1, x.octet(far));
        }
        x.image();
        x.years(2);
        s.due("the latest one is told, not what is now", 0, x.octet(1));
        s.due("the last byte", true, x.octet(8) >= 0);
        s.due("octet(9)", -1, x.octet(9));
        for (int far : FAR) {
            s.due("octet(" + far + ")", -1, x.octet(far));
        }
        x.image();
        s.due("the latest one", 2, x.octet(1));
        Check.town(x, "");
        x.image();
        s.due("a shorter one has no byte 3", -1, x.octet(3));
    }

    private static void on() {
        Says s = Says.promise(33, "The tape (it goes) is AN IMAGE of this TOWN: true, all is as it tells, nothing is KEPT, no ACT can be undone;");
        can(s, "as it is", true);
        StoneRaised x = Check.with(Scene.TOWN);
        Check.on(x, Check.summed(GOOD));
        s.due("YEAR", 300, x.has(5));
        s.due("a", 0, x.at(0, 0, 0));
        s.due("b", 1, x.at(0, 0, 1));
        s.due("column 0", 2, x.wall(0, 10));
        s.due("c is on the SHELF", 2, x.stone(2, 1));
        s.due("c is strong", 600, x.stone(2, 0));
        s.due("c's HOME", 1, x.child(2, 0));
        s.due("FEUDS not ended", 1, x.has(4));
        s.due("c's FEUDS", 1, x.child(2, 3));
        Says holds = Says.promise(33, "whether all HOLD is not asked).");
        can(holds, "a bears nothing", true, 4, 0);
        can(holds, "a is 3 strong", true, 4, 3);
    }

    private static void years() {
        Says s = Says.promise(33, "(YEAR, strength 999 at most;");
        can(s, "YEAR 999", true, 0, 3, 1, 231);
        can(s, "YEAR 1000", false, 0, 3, 1, 232);
        can(s, "YEAR 1024", false, 0, 4, 1, 0);
        can(s, "YEAR 65535", false, 0, 255, 1, 255);
        can(s, "YEAR 256", true, 0, 1, 1, 0);
        can(s, "YEAR 255", true, 0, 0, 1, 255);
        can(s, "YEAR 0, none lies", true, 0, 0, 1, 0, 5, 0, 11, 0, 13, 0);
    }

    private static void strengths() {
        Says s = Says.promise(33, "(YEAR, strength 999 at most;");
        for (int stone = 3; stone < 20; stone += 6) {
            can(s, "strength 999 at " + stone, true, stone, 3, stone + 1, 231);
            can(s, "strength 1000 at " + stone, false, stone, 3, stone + 1, 232);
            can(s, "strength 1024 at " + stone, false, stone, 4, stone + 1, 0);
            can(s, "strength 65535 at " + stone, false, stone, 255, stone + 1, 255);
            can(s, "strength 0 at " + stone, true, stone, 0, stone + 1, 0);
        }
    }

    private static void homes() {
        Says s = Says.promise(33, "HOMES that there are;");
        for (int stone = 2; stone < 20; stone += 6) {
            can(s, "HOME 0 at " + stone, true, stone, 0);
            can(s, "HOME 1 at " + stone, true, stone, 1);
            can(s, "HOME 2 at " + stone, false, stone, 2);
            can(s, "HOME 255 at " + stone, false, stone, 255);
        }
    }

    private static void places() {
        Says s = Says.promise(33, "at places of the WALL,");
        can(s, "the last WALL", true, 11, 2, 13, 0);
        can(s, "a WALL too many", false, 11, 3, 13, 0);
        can(s, "WALL 255", false, 11, 255, 13, 0);
        can(s, "the last column", true, 12, 1, 13, 0);
        can(s, "a column too many", false, 12, 2, 13, 0);
        can(s, "a column too many of the narrow WALL", false, 11, 2, 12, 1, 13, 0);
        can(s, "column 255", false, 12, 255, 13, 0);
        can(s, "the last course", true);
        can(s, "a course too many", false, 17, 1, 18, 0, 19, 2);
        can(s, "a course too many of the low WALL", false, 5, 2, 11, 2);
        can(s, "course 255", false, 13, 255);
        can(s, "a column without a WALL", false, 18, 1);
        can(s, "a course without a WALL", false, 19, 1);
        String four = Scene.HOME + Scene.children(4) + "wall p wide 4 high 4;wall q wide 4 high 4;wall r wide 4 high 4;"
            + "wall t wide 4 high 4;raised 1 to 2;";
        int[] row = {0, 9, 0, 0, 1, 4, 3, 0, 0, 0, 1, 4, 3, 1, 0, 0, 1, 4, 3, 2, 0, 0, 1, 4, 3, 3};
        StoneRaised x = Check.with(four);
        s.due("the last place of all", true, Check.on(x, Check.summed(row)));
        s.due("d lies there", 3, x.at(3, 3, 3));
        row[5] = 5;
        s.due("a fifth WALL", false, Check.on(x, Check.summed(row)));
        row[5] = 4;
        row[6] = 4;
        s.due("a fifth column", false, Check.on(x, Check.summed(row)));
        row[6] = 3;
        row[25] = 4;
        s.due("a fifth course", false, Check.on(x, Check.summed(row)));
    }

    private static void doneAlone() {
        Says s = Says.promise(33, "BUILT IN just what is DONE,");
        // a and b are born in 0, DONE from YEAR 3 on; c is born in 1, DONE from YEAR 4 on.
        can(s, "a and b in YEAR 3", true, 0, 0, 1, 3);
        can(s, "a and b in YEAR 2", false, 0, 0, 1, 2);
        can(s, "b alone in YEAR 2", false, 0, 0, 1, 2, 5, 0, 13, 0);
        can(s, "c, too, in YEAR 4", true, 0, 0, 1, 4, 17, 2);
        can(s, "c, too, in YEAR 3", false, 0, 0, 1, 3, 17, 2);
        can(s, "none in YEAR 2", true, 0, 0, 1, 2, 5, 0, 11, 0, 13, 0);
        can(s, "DONE on the SHELF", true, 5, 0, 11, 0, 13, 0);
    }

    private static void rests() {
        Says two = Says.promise(33, "no two at one,");
        can(two, "b at a's place", false, 13, 0);
        can(two, "c at b's place", false, 17, 1, 19, 1);
        can(two, "c beside a", true, 17, 1, 18, 1);
        Says rest = Says.promise(33, "each on one that lies below;");
        can(rest, "b on nothing", false, 5, 0);
        can(rest, "b above an empty column", false, 12, 1);
        can(rest, "a above b, told ahead of it", true, 7, 1, 13, 0);
        can(rest, "a on nothing", false, 7, 1, 12, 1, 13, 0);
        can(rest, "c on nothing", false, 17, 1, 18, 1, 19, 1);
        String high = Scene.HOME + Scene.children(3) + "wall p wide 1 high 4;raised 1 to 2;";
        StoneRaised x = Check.with(high);
        rest.due("course 2 on 1 on 0", true, Check.on(x, Check.summed(0, 9, 0, 0, 1, 1, 0, 2, 0, 0, 1, 1, 0, 0, 0, 0, 1, 1, 0, 1)));
        rest.due("course 3 on 1 on 0", false, Check.on(x, Check.summed(0, 9, 0, 0, 1, 1, 0, 3, 0, 0, 1, 1, 0, 0, 0, 0, 1, 1, 0, 1)));
        rest.due("course 2 on 1 on none", false, Check.on(x, Check.summed(0, 9, 0, 0, 1, 1, 0, 2, 0, 0, 1, 0, 0, 0, 0, 0, 1, 1, 0, 1)));
    }

    private static void feuds() {
        Says s = Says.terms("III", "for each FEUD 1 if it was ended, else 0;");
        for (int feud = 20; feud < 22; feud++) {
            can(s, "0 at " + feud, true, feud, 0);
            can(s, "1 at " + feud, true, feud, 1);
            can(s, "2 at " + feud, false, feud, 2);
            can(s, "255 at " + feud, false, feud, 255);
        }
    }

    private static void lengths() {
        Says s = Says.promise(33, "false, refused (5), all staying, if it is none such");
        for (int bytes = 0; bytes < 26; bytes++) {
            int[] row = Arrays.copyOf(GOOD, Math.max(0, bytes - 1));
            StoneRaised x = Check.with(Scene.TOWN);
            s.due(bytes + " bytes", bytes == 23, Check.on(x, bytes == 0 ? new byte[0] : Check.summed(row)));
            s.due(bytes + " bytes: the tape went", false, x.end(1));
        }
        StoneRaised none = new StoneRaised();
        s.due("a new object, no bytes", false, none.on());
        s.due("a new object, two bytes", false, Check.on(none, Check.summed(0)));
        s.due("a new object, four bytes", false, Check.on(none, Check.summed(0, 0, 0)));
        s.due("a new object's", true, Check.on(none, Check.summed(0, 0)));
    }

    private static void sums() {
        Says s = Says.terms("III", "last a byte: all ahead from 167 on, c = (5 c + it) mod 251.");
        byte[] good = Check.summed(GOOD);
        StoneRaised x = Check.with(Scene.TOWN);
        for (int sum = 0; sum < 256; sum++) {
            byte[] row = good.clone();
            row[22] = (byte) sum;
            s.due("the last byte " + sum, sum == (good[22] & 255), Check.on(x, row));
        }
    }

    private static void forgets() {
        Says s = Says.promise(33, "true, all is as it tells, nothing is KEPT, no ACT can be undone;");
        StoneRaised x = Scene.lively();
        x.end(0);
        int seed = x.has(11);
        int homes = x.homes(0);
        s.due("something was KEPT", true, x.has(9) > 0);
        s.due("an ACT could be undone", true, x.has(10) > 0);
        s.due("on", true, Check.on(x, Check.summed(GOOD)));
        s.due("nothing is KEPT", 0, x.has(9));
        s.due("kept(0)", -1, x.kept(0, 0));
        s.due("no ACT", 0, x.has(10));
        s.due("none can be undone", false, x.undo());
        s.due("the YEAR", 300, x.has(5));
        s.due("the seed is no part of it", seed, x.has(11));
        s.due("nor what seams told", homes, x.homes(0));
        s.due("a FEUD that was ended is none again", true, Check.on(x, Check.summed(changed(21, 0))));
        s.due("a FEUD that was ended is none again", 2, x.has(4));
    }

    private static void ofAnotherTown() {
        Says s = Says.promise(33, "The tape (it goes) is AN IMAGE of this TOWN: true,");
        byte[] good = Check.summed(GOOD);
        s.due("no CHILDREN", false, Check.on(new StoneRaised(), good));
        s.due("another WALL", false, Check.on(Check.with(Scene.TOWN.replace("wide 2 high 2", "wide 2 high 1")), good));
        s.due("fewer FEUDS", false, Check.on(Check.with(Scene.TOWN.replace("feud b c;", "")), good));
        s.due("more CHILDREN", false, Check.on(Check.with(Scene.TOWN + "child d of g born 1;"), good));
        s.due("fewer HOMES", false,
            Check.on(Check.with(Scene.TOWN.replace("home g talk 4 warm 2;", "").replace("of g", "of h")), good));
        s.due("born later", false, Check.on(Check.with(Scene.TOWN.replace("child b of h born 0", "child b of h born 99")),
            Check.summed(changed(0, 0, 1, 101))));
        s.due("born later, and DONE", true, Check.on(Check.with(Scene.TOWN.replace("child b of h born 0", "child b of h born 99")),
            Check.summed(changed(0, 0, 1, 102))));
    }

    private static void refusedAlone() {
        Says s = Says.promise(33, "false, refused (5), all staying, if it is none such");
        int[][] bad = {{0, 3, 1, 232}, {3, 3, 4, 232}, {2, 2}, {11, 3}, {12, 2}, {13, 0}, {5, 0}, {17, 1, 19, 2}, {18, 1}, {19, 1},
            {20, 2}, {0, 0, 1, 2}, {21, 2}, {15, 9}};
        for (int[] changes : bad) {
            byte[] row = Check.summed(changed(changes));
            Scene.refused(s, Arrays.toString(changes), 5, true, x -> {
                x.end(0);
                Check.on(x, row);
            });
        }
        byte[] sum = Check.summed(GOOD);
        sum[22]++;
        Scene.refused(s, "another last byte", 5, true, x -> {
            x.end(0);
            Check.on(x, sum);
        });
        Scene.refused(s, "what is no image", 5, true, StoneRaised::on);
    }

    private static void status() {
        Says s = Says.promise(34, "How many were refused: 0 feed(), end(); 1 town(); 2 years(), chance(); 3 go(), pull(), peace(); 4 undo(); "
            + "5 seed(), seams(), on().");
        refused(s, "end()", 0, x -> x.end(1));
        refused(s, "town()", 1, x -> Check.town(x, "x"));
        refused(s, "years()", 2, x -> x.years(0));
        refused(s, "chance()", 2, x -> x.chance(0));
        refused(s, "go()", 3, x -> x.go(0, 0));
        refused(s, "pull()", 3, x -> x.pull(0));
        refused(s, "peace()", 3, x -> x.peace(0));
        refused(s, "undo()", 4, StoneRaised::undo);
        refused(s, "seed()", 5, x -> x.seed(-1));
        refused(s, "seams()", 5, x -> x.seams(0));
        refused(s, "on()", 5, StoneRaised::on);
        refused(s, "nothing", -1, x -> {
            x.later(61, 9);
            x.built(9);
            x.down(9);
            x.props(9);
            x.strongest(9, 9);
            x.order(9);
            x.reconcile(0, 0);
            x.homes(9);
            x.pulling(9);
            x.kept(99, 0);
            x.octet(99);
            x.letter(9, 9, 9);
            x.at(9, 9, 9);
            x.fault(9);
            x.status(9);
            x.end(0);
            x.years(100);
            x.chance(100);
            x.undo();
            x.seed(5);
            x.image();
            x.town();
        });
        StoneRaised full = new StoneRaised();
        for (int k = 0; k < 83; k++) {
            full.feed(0, 0, 0, 0, 0);
        }
        s.due("feed()", 3, full.status(0));
    }

    private static void refused(Says s, String call, int kind, Consumer<StoneRaised> made) {
        StoneRaised x = new StoneRaised();
        for (int times = 0; times <= 3; times++) {
            for (int what = 0; what < 6; what++) {
                s.due(call + " " + times + " times: status(" + what + ")", what == kind ? times : 0, x.status(what));
            }
            made.accept(x);
        }
    }

    private static void statusOfEach() {
        Says s = Says.promise(34, "NONE for others.");
        StoneRaised x = new StoneRaised();
        s.due("status(6)", -1, x.status(6));
        for (int far : FAR) {
            s.due("status(" + far + ")", -1, x.status(far));
        }
    }
}
