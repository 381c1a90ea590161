import java.io.IOException;
import java.lang.reflect.Constructor;
import java.lang.reflect.Field;
import java.lang.reflect.Method;
import java.lang.reflect.Modifier;
import java.nio.file.Files;
import java.nio.file.Path;
import java.util.ArrayList;
import java.util.List;

/** What the document says ahead of its promises: the code block of constants and calls, and the way round. */
public final class FaceBoundsTest {
    private static final String TOWN = "home oak talk 6 warm 2; home ash talk 3 warm 5;"
        + "child ann of oak born 0; child bob of ash born 0; child cy of ash born 1;"
        + "twins ann cy; feud ann bob; wall w wide 2 high 2; raised 1 to 3; weighs 4; bites 9; frost 50;";

    public static void main(String[] args) throws Exception {
        constant();
        calls();
        headings();
        homesAndChildren();
        stones();
        askedAhead();
        askedOfWalls();
        keptAndUndone();
        lastCall();
        Check.finish();
    }

    private static void constant() throws ReflectiveOperationException {
        Says s = Says.terms("constants", "`NONE = -1`: None; refused.");
        s.due("NONE", -1, StoneRaised.NONE);
        Field none = StoneRaised.class.getDeclaredField("NONE");
        s.due("NONE is public, static, final", Modifier.PUBLIC | Modifier.STATIC | Modifier.FINAL, none.getModifiers());
        s.due("NONE is an int", true, none.getType() == int.class);
        int shown = 0;
        for (Field field : StoneRaised.class.getDeclaredFields()) {
            shown += Modifier.isPublic(field.getModifiers()) ? 1 : 0;
        }
        s.due("public fields", 1, shown);
        StoneRaised x = new StoneRaised();
        s.due("none: fault(1) without a fault", StoneRaised.NONE, x.fault(1));
        s.due("refused: years(0)", StoneRaised.NONE, x.years(0));
        s.due("refused: seams(0) of no tape", StoneRaised.NONE, x.seams(0));
    }

    private static void calls() {
        Says s = Says.terms("face", "public final class StoneRaised { public static final int NONE = -1; public StoneRaised(); "
            + "public int feed(int a, int b, int c, int d, int e); public boolean end(int n); public int town(); "
            + "public int fault(int what); public int has(int what); public int letter(int kind, int which, int k); "
            + "public int home(int home, int what); public int child(int child, int what); public int stone(int child, int what); "
            + "public int wall(int wall, int what); public int at(int wall, int column, int course); "
            + "public int later(int n, int what); public int built(int child); public int down(int child); "
            + "public int props(int wall); public int strongest(int child, int what); public int order(int k); "
            + "public int reconcile(int n, int what); public int seams(int born); public int homes(int what); "
            + "public int pulling(int wall); public int years(int n); public int chance(int n); "
            + "public boolean go(int child, int home); public int pull(int child); public boolean peace(int feud); "
            + "public boolean undo(); public boolean seed(int seed); public int kept(int k, int what); public int image(); "
            + "public int octet(int k); public boolean on(); public int status(int what); }");
        s.due("public, final, of no other class", Modifier.PUBLIC | Modifier.FINAL, StoneRaised.class.getModifiers());
        Constructor<?>[] made = StoneRaised.class.getDeclaredConstructors();
        s.due("constructors", 1, made.length);
        s.due("it is public", Modifier.PUBLIC, made[0].getModifiers());
        s.due("its arguments", 0, made[0].getParameterCount());
        List<String> want = List.of("int feed 5", "boolean end 1", "int town 0", "int fault 1", "int has 1", "int letter 3",
            "int home 2", "int child 2", "int stone 2", "int wall 2", "int at 3", "int later 2", "int built 1", "int down 1",
            "int props 1", "int strongest 2", "int order 1", "int reconcile 2", "int seams 1", "int homes 1", "int pulling 1",
            "int years 1", "int chance 1", "boolean go 2", "int pull 1", "boolean peace 1", "boolean undo 0", "boolean seed 1",
            "int kept 2", "int image 0", "int octet 1", "boolean on 0", "int status 1");
        List<String> left = new ArrayList<>(want);
        for (Method method : StoneRaised.class.getDeclaredMethods()) {
            if (Modifier.isPublic(method.getModifiers())) {
                String told = method.getReturnType() + " " + method.getName() + " " + method.getParameterCount();
                s.due(told + " is told", true, left.remove(told));
                s.due(told + " is public alone", Modifier.PUBLIC, method.getModifiers());
                for (Class<?> type : method.getParameterTypes()) {
                    s.due(told + " takes ints", true, type == int.class);
                }
            }
        }
        s.due("missing: " + left, 0, left.size());
    }

    private static void headings() throws IOException {
        Says ahead = Says.terms("constants", "Ahead of the calls `later`, `built`, `down`, `props`, `strongest`, `order`, `reconcile` "
            + "the interface says: ---- ahead.");
        Says seams = Says.terms("constants", "Ahead of the calls `seams`, `homes`, `pulling` the interface says: ---- seams, masons.");
        Says acts = Says.terms("constants", "Ahead of the calls `years`, `chance`, `go`, `pull`, `peace`, `undo`, `seed`, `kept` the "
            + "interface says: ---- acts.");
        Says images = Says.terms("constants", "Ahead of the calls `image`, `octet`, `on`, `status` the interface says: ---- images, "
            + "refusals.");
        String source = Files.readString(Path.of("src/main/java/StoneRaised.java"));
        under(ahead, source, "// ---- ahead\n", "at", "later", "built", "down", "props", "strongest", "order", "reconcile");
        under(seams, source, "// ---- seams, masons\n", "reconcile", "seams", "homes", "pulling");
        under(acts, source, "// ---- acts\n", "pulling", "years", "chance", "go", "pull", "peace", "undo", "seed", "kept");
        under(images, source, "// ---- images, refusals\n", "kept", "image", "octet", "on", "status");
    }

    /** The heading stands behind the call ahead of it, and the others follow it one by one. */
    private static void under(Says s, String source, String heading, String... calls) {
        int at = source.indexOf(heading);
        s.due(heading.trim() + " stands there", true, at >= 0);
        int last = source.indexOf(" " + calls[0] + "(int");
        s.due(calls[0] + " is ahead of it", true, last >= 0 && last < at);
        last = at;
        for (int k = 1; k < calls.length; k++) {
            int next = place(source, calls[k]);
            s.due(calls[k] + " comes next", true, next > last);
            last = next;
        }
    }

    private static int place(String source, String call) {
        return Math.max(source.indexOf("public int " + call + "("), source.indexOf("public boolean " + call + "("));
    }

    private static void homesAndChildren() {
        Says s = Says.terms("what", "Each child raises a stone: homes by talk and warmth, children by homes, years, twins, feuds, "
            + "walls by columns and courses, how a stone gains and where it may lie by a small language, told as a text.");
        StoneRaised x = Check.with(TOWN + "gains talk+warm; may under=0;");
        s.due("talk", 6, x.home(0, 0));
        s.due("warmth", 5, x.home(1, 1));
        s.due("children by homes", 6, x.home(1, 2));
        s.due("by years", 1, x.child(2, 1));
        s.due("twins", 2, x.child(0, 2));
        s.due("feuds", 2, x.child(0, 3));
        s.due("columns", 2, x.wall(0, 0));
        s.due("courses", 2, x.wall(0, 1));
        s.due("of three stones two may lie", 2, x.years(5));
        s.due("how a stone gains", 16, x.stone(0, 0));
        s.due("where it may lie", 2, x.stone(1, 1));
    }

    private static void stones() {
        Says s = Says.terms("overview", "Years go by: stones are raised, laid on the shelf, built in, bear what lies above, fall, with "
            + "frosts by a seed;");
        StoneRaised x = Check.with(TOWN);
        x.years(1);
        s.due("raised", 1, x.stone(0, 1));
        x.years(2);
        s.due("laid on the shelf", 2, x.stone(1, 1));
        s.due("built in", 3, x.stone(0, 1));
        x.years(2);
        s.due("lies above", 1, x.at(0, 0, 1));
        s.due("what lies above", 4, x.stone(0, 5));
        s.due("bear", 12, x.stone(0, 6));
        s.due("a frost by a seed", 1, x.chance(1));
        s.due("fall", 2, x.stone(0, 1));
        s.due("what lay above, too", 2, x.stone(1, 1));
    }

    private static void askedAhead() {
        Says s = Says.terms("overview", "asked are: when a stone is built in,");
        StoneRaised x = Check.with(TOWN);
        s.due("bob's", 5, x.built(1));
        s = Says.terms("overview", "in which home it would be strongest,");
        s.due("bob's", 0, x.strongest(1, 0));
        s = Says.terms("overview", "whom to reconcile,");
        s.due("ann and bob", 0, x.reconcile(3, 0));
        s = Says.terms("overview", "which year tells most,");
        s.due("the first one", 1, x.homes(1));
        s = Says.terms("overview", "how it was raised by its seams,");
        Check.feed(x, Check.bytes(2, 0, 6));
        s.due("in one home", 1, x.seams(0));
        s.due("at ash", 2, x.homes(0));
    }

    private static void askedOfWalls() {
        StoneRaised x = Check.with(TOWN);
        x.years(5);
        Says s = Says.terms("overview", "what comes down with one that is pulled,");
        s.due("ann's and bob's", 3, x.down(0));
        s = Says.terms("overview", "which to prop so that a frost does no harm,");
        s.due("ann's", 1, x.props(0));
        s = Says.terms("overview", "how a wall falls to two masons who pull in turn;");
        s.due("three can be pulled, one by one", 1, x.pulling(0));
        x.pull(0);
        s.due("one can be pulled", 1, x.pulling(0));
        s = Says.terms("overview", "in which order the shelf goes in best,");
        s.due("both go in", 2, x.order(StoneRaised.NONE));
        s.due("ann's first", 0, x.order(0));
        s.due("then bob's", 1, x.order(1));
    }

    private static void keptAndUndone() {
        StoneRaised x = Check.with(TOWN);
        x.years(5);
        x.pull(1);
        Says s = Says.terms("overview", "what was built and fell kept;");
        s.due("told as kept", 4, x.has(9));
        s.due("ann's was built in", 1, x.kept(0, 3));
        s.due("bob's came down", 0, x.kept(3, 3));
        s = Says.terms("overview", "acts undone;");
        s.due("undo()", true, x.undo());
        s.due("bob's lies again", 3, x.stone(1, 1));
        s = Says.terms("overview", "images.");
        byte[] image = Check.imageOf(x);
        x.years(1);
        s.due("on()", true, Check.on(x, image));
        s.due("the year of the image", 5, x.has(5));
    }

    private static void lastCall() {
        Says s = Says.terms("what", "An object is used for at most 512 calls after it has been made; what later calls answer is free.");
        StoneRaised x = new StoneRaised();
        int calls = 0;
        byte[] text = TOWN.getBytes(java.nio.charset.StandardCharsets.ISO_8859_1);
        Check.feed(x, text);
        calls += (text.length + 19) / 20 + 1;
        s.due("town()", 12, x.town());
        calls++;
        for (int home = 1; calls < 509; home = 1 - home) {
            s.due("go(0, " + home + "), call " + ++calls, true, x.go(0, home));
        }
        s.due("years(3), call 510", 1, x.years(3));
        s.due("undo(), call 511", true, x.undo());
        s.due("has(10), call 512", 19, x.has(10));
    }
}
