import java.io.ByteArrayOutputStream;
import java.io.IOException;
import java.io.PrintStream;
import java.lang.reflect.InvocationTargetException;
import java.lang.reflect.Method;
import java.nio.charset.StandardCharsets;
import java.nio.file.Files;
import java.nio.file.Path;
import java.util.ArrayList;
import java.util.List;
import java.util.Set;
import java.util.TreeSet;
import java.util.regex.Matcher;
import java.util.regex.Pattern;
import javax.tools.ToolProvider;

/** Runs what README.md shows: its program, and each of its calls, on the class and on the plain model. */
public final class ReadmeTest {
    private static final Pattern BLOCK = Pattern.compile("(?s)```(\\w+)\\n(.*?)```");
    private static final Pattern TELL = Pattern.compile("(?s)tell\\(x, (.*?)\\);\\n");
    private static final Pattern TEXT = Pattern.compile("\"([^\"]*)\"");
    private static final Pattern CALL = Pattern.compile("x\\.(\\w+)\\((.*?)\\);\\s*// (NONE|true|false|-?\\d+)(?::.*)?\\n");
    private static final String MADE = "StoneRaised x = new StoneRaised();\n";

    private final Set<String> shown = new TreeSet<>();
    private StoneRaised x;
    private Model model;

    public static void main(String[] args) throws Exception {
        String page = Files.readString(Path.of("README.md"));
        List<String> calls = new ArrayList<>();
        String program = "";
        String printed = "";
        Matcher block = BLOCK.matcher(page);
        while (block.find()) {
            if (block.group(1).equals("text")) {
                printed = block.group(2);
            } else if (block.group(1).equals("java") && block.group(2).startsWith("public final class First")) {
                program = block.group(2);
            } else if (block.group(1).equals("java")) {
                calls.add(block.group(2));
            }
        }
        program(program, printed);
        ReadmeTest test = new ReadmeTest();
        for (String one : calls) {
            test.run(one);
        }
        test.allShown();
        Check.finish();
    }

    private static void program(String source, String printed) throws Exception {
        Path at = Files.createTempDirectory("first");
        Path file = Files.writeString(at.resolve("First.java"), source);
        int compiled = ToolProvider.getSystemJavaCompiler().run(null, null, null, "-d", at.toString(),
            "src/main/java/StoneRaised.java", file.toString());
        Check.due("the program of README.md compiles", 0, compiled);
        if (compiled == 0) {
            String got = ran(at);
            Check.due("the program of README.md prints '" + got + "', the page '" + printed + "'", true, printed.equals(got));
        }
        remove(at);
    }

    private static String ran(Path classes) throws IOException, InterruptedException {
        String java = Path.of(System.getProperty("java.home"), "bin", "java").toString();
        Process process = new ProcessBuilder(java, "-cp", classes.toString(), "First").redirectErrorStream(true).start();
        ByteArrayOutputStream told = new ByteArrayOutputStream();
        process.getInputStream().transferTo(new PrintStream(told));
        Check.due("the program of README.md ends with", 0, process.waitFor());
        return told.toString(StandardCharsets.UTF_8);
    }

    private static void remove(Path directory) throws IOException {
        try (var files = Files.list(directory)) {
            for (Path file : files.toList()) {
                Files.delete(file);
            }
        }
        Files.delete(directory);
    }

    /** Takes a block call by call; what is no call of these forms is told, so that none goes by unheld. */
    private void run(String block) throws ReflectiveOperationException {
        String left = block;
        while (!left.isBlank()) {
            Matcher tell = TELL.matcher(left);
            Matcher call = CALL.matcher(left);
            if (left.startsWith(MADE)) {
                x = new StoneRaised();
                model = new Model();
                left = left.substring(MADE.length());
            } else if (tell.lookingAt()) {
                tell(tell.group(1));
                left = left.substring(tell.end());
            } else if (call.lookingAt()) {
                hold(call.group(1), call.group(2), call.group(3));
                left = left.substring(call.end());
            } else {
                Check.due("README.md: can't be run: " + left, 0, 1);
                return;
            }
        }
    }

    private void tell(String literals) {
        StringBuilder text = new StringBuilder();
        Matcher part = TEXT.matcher(literals);
        while (part.find()) {
            text.append(part.group(1));
        }
        byte[] bytes = text.toString().getBytes(StandardCharsets.ISO_8859_1);
        Check.feed(x, bytes);
        for (int k = 0; k < bytes.length; k += 20) {
            int[] five = new int[5];
            for (int n = 0; n < 20; n++) {
                five[n / 4] = five[n / 4] << 8 | (k + n < bytes.length ? bytes[k + n] & 255 : 0);
            }
            model.feed(five[0], five[1], five[2], five[3], five[4]);
        }
        model.end(bytes.length);
    }

    private void hold(String name, String told, String answer) throws ReflectiveOperationException {
        String[] parts = told.isEmpty() ? new String[0] : told.split(", ");
        Object[] numbers = new Object[parts.length];
        Class<?>[] types = new Class<?>[parts.length];
        for (int k = 0; k < parts.length; k++) {
            numbers[k] = parts[k].equals("NONE") ? StoneRaised.NONE : (int) (long) Long.decode(parts[k]);
            types[k] = int.class;
        }
        shown.add(name);
        String call = "README.md: " + name + "(" + told + ")";
        Method method = StoneRaised.class.getMethod(name, types);
        boolean yesOrNo = method.getReturnType() == boolean.class;
        Check.due(call + " is a yes or no", yesOrNo, answer.equals("true") || answer.equals("false"));
        Check.due(call, number(answer), number(String.valueOf(method.invoke(x, numbers))));
        Check.due(call + " of the model", number(answer), ofModel(name, types, numbers));
    }

    private int ofModel(String name, Class<?>[] types, Object[] numbers) throws ReflectiveOperationException {
        Method method = Model.class.getDeclaredMethod(name, types);
        try {
            return (int) method.invoke(model, numbers);
        } catch (InvocationTargetException e) {
            throw new IllegalStateException(name, e.getCause());
        }
    }

    private static int number(String answer) {
        return switch (answer) {
            case "true" -> 1;
            case "false" -> 0;
            case "NONE" -> StoneRaised.NONE;
            default -> Integer.parseInt(answer);
        };
    }

    private void allShown() {
        for (Method method : StoneRaised.class.getDeclaredMethods()) {
            if (java.lang.reflect.Modifier.isPublic(method.getModifiers())) {
                Check.due("README.md shows " + method.getName(), true, shown.contains(method.getName()));
            }
        }
    }
}
