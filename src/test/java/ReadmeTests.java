import java.io.File;
import java.io.IOException;
import java.lang.reflect.Method;
import java.nio.charset.StandardCharsets;
import java.nio.file.Files;
import java.nio.file.Path;
import java.util.ArrayList;
import java.util.List;
import java.util.regex.Matcher;
import java.util.regex.Pattern;

/** What README.md says, done as it says. */
public final class ReadmeTests {
    private static final Pattern ROW = Pattern.compile("\\| `([a-z]+)\\(([a-z, ]*)\\)` \\| .* \\| `([A-Za-z0-9-]+)` \\|");
    /** No call takes such a number, but feed. */
    private static final int FAR = 1_000_000_000;

    private final List<String> lines = Files.readAllLines(Path.of("README.md"));

    private ReadmeTests() throws IOException {
    }

    public static void main(String[] args) throws Exception {
        ReadmeTests readme = new ReadmeTests();
        boolean well = end("README: the program is the one in src/example/java", readme.program());
        well &= end("README: its commands run and print what it says", readme.commands());
        well &= end("README: a law as it tells one is a LAW", readme.lawTold());
        well &= end("README: the table tells each method, and its else", readme.table());
        well &= end("README: the files that it names are all that there are", readme.files());
        well &= end("README: a test class runs alone as it says", readme.testAlone());
        if (!well) {
            System.exit(1);
        }
    }

    private static boolean end(String name, String wrong) {
        System.out.println(wrong.isEmpty() ? "PASS " + name : "FAIL " + name + ": " + wrong);
        return wrong.isEmpty();
    }

    private String program() throws IOException {
        return block("java", 0).equals(Files.readAllLines(Path.of("src/example/java/Street.java"))) ? "" : "another text";
    }

    private String commands() throws Exception {
        List<String> commands = block("sh", 0);
        List<String> printed = new ArrayList<>();
        for (String command : commands) {
            printed.addAll(outputOf(command));
        }
        List<String> due = block("text", 0);
        return commands.size() == 2 && !due.isEmpty() && printed.equals(due) ? "" : printed.toString();
    }

    private String lawTold() {
        Matcher told = Pattern.compile("such as `([^`]+)`").matcher(String.join(" ", lines));
        if (!told.find()) {
            return "none told";
        }
        HemLine x = new HemLine();
        return Checks.tell(x, told.group(1)) == 0 && x.count(4) == 3 && x.count(8) == 0 ? "" : told.group(1);
    }

    private String table() throws Exception {
        StringBuilder wrong = new StringBuilder();
        List<String> told = new ArrayList<>();
        for (String line : lines) {
            Matcher row = ROW.matcher(line);
            if (row.matches()) {
                told.add(row.group(1));
                wrong.append(wrongIn(row.group(1), row.group(2), row.group(3)));
            }
        }
        int methods = HemLine.class.getDeclaredMethods().length - hidden();
        return told.size() == 35 && methods == 35 ? wrong.toString() : wrong + " " + told.size() + " of " + methods;
    }

    private static int hidden() {
        int count = 0;
        for (Method m : HemLine.class.getDeclaredMethods()) {
            count += java.lang.reflect.Modifier.isPublic(m.getModifiers()) ? 0 : 1;
        }
        return count;
    }

    /** A row's parameters as the class has them; its else is what a new object answers to numbers far out. */
    private static String wrongIn(String name, String parameters, String other) throws Exception {
        String face = Files.readString(Path.of("src/main/java/HemLine.java"));
        Matcher m = Pattern.compile("    public (int|long|boolean) " + name + "\\(([^)]*)\\)").matcher(face);
        if (!m.find() || !m.group(2).replaceAll("(int|boolean) ", "").equals(parameters)) {
            return " " + name + "(" + parameters + ")";
        }
        for (Method method : HemLine.class.getDeclaredMethods()) {
            if (method.getName().equals(name)) {
                return answersElse(method, other) ? "" : " " + name + " else";
            }
        }
        return " no " + name;
    }

    private static boolean answersElse(Method method, String other) throws Exception {
        Class<?>[] types = method.getParameterTypes();
        Object[] far = new Object[types.length];
        for (int i = 0; i < far.length; i++) {
            far[i] = types[i] == int.class ? (Object) FAR : Boolean.TRUE;
        }
        HemLine x = new HemLine();
        String due = other.equals("NONE") ? String.valueOf(HemLine.NONE) : other;
        int before = method.getName().equals("feed") ? 35 : method.getName().equals("image") ? 3 : 0;
        for (int i = 0; i < before; i++) {
            method.invoke(x, far);
        }
        return String.valueOf(method.invoke(x, far)).equals(due);
    }

    private String files() {
        String text = String.join("\n", lines);
        StringBuilder wrong = new StringBuilder();
        for (String name : new File("src/test/java").list()) {
            String plain = name.replace(".java", "");
            if (!text.contains("`" + plain + "`")) {
                wrong.append(' ').append(name);
            }
        }
        Matcher named = Pattern.compile("`([A-Za-z]+Tests)`").matcher(text);
        while (named.find()) {
            if (!new File("src/test/java/" + named.group(1) + ".java").exists()) {
                wrong.append(" no ").append(named.group(1));
            }
        }
        Matcher path = Pattern.compile("`([a-zA-Z]+/[A-Za-z/.]+)`").matcher(text);
        while (path.find()) {
            if (!new File(path.group(1)).exists()) {
                wrong.append(" no ").append(path.group(1));
            }
        }
        if (!block("sh", 1).equals(List.of(".ci/run")) || !new File(".ci/run").canExecute()) {
            wrong.append(" .ci/run");
        }
        return wrong.toString();
    }

    /** The classes stand in build/own only when .ci/run compiled them, as README.md says. */
    private String testAlone() throws Exception {
        List<String> commands = block("sh", 2);
        if (commands.size() != 1) {
            return commands.toString();
        }
        List<String> printed = outputOf(commands.get(0));
        return !printed.isEmpty() && printed.stream().allMatch(l -> l.startsWith("PASS ")) ? "" : printed.toString();
    }

    private static List<String> outputOf(String command) throws Exception {
        Process process = new ProcessBuilder(command.split(" +")).redirectErrorStream(true).start();
        String printed = new String(process.getInputStream().readAllBytes(), StandardCharsets.UTF_8);
        List<String> out = new ArrayList<>(printed.lines().toList());
        int code = process.waitFor();
        if (code != 0) {
            out.add(command + " ended with " + code);
        }
        return out;
    }

    /** The lines of the block of this kind that has so many such blocks ahead. */
    private List<String> block(String kind, int ahead) {
        List<String> block = new ArrayList<>();
        int found = -1;
        boolean open = false;
        for (String line : lines) {
            if (line.startsWith("```")) {
                open = line.equals("```" + kind);
                found += open ? 1 : 0;
            } else if (open && found == ahead) {
                block.add(line);
            }
        }
        return block;
    }
}
