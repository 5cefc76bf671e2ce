import java.io.IOException;
import java.nio.file.Files;
import java.nio.file.Path;
import java.util.ArrayList;
import java.util.List;
import java.util.regex.Matcher;
import java.util.regex.Pattern;

/** Those rules of LANGUAGE.md that can be seen by looking at the lines. */
public final class LanguageTests {
    private static final Pattern METHOD = Pattern.compile("^( +)(public |private |static |final )*([A-Za-z\\[\\]]+) ([a-zA-Z]+)\\((.*)\\) \\{$");

    public static void main(String[] args) throws IOException {
        List<String> wrong = new ArrayList<>();
        List<String> lines = new ArrayList<>();
        boolean comment = false;
        for (String line : Files.readAllLines(Path.of("src/main/java/HemLine.java"))) {
            comment = comment || line.trim().startsWith("/*");
            lines.add(comment || line.trim().startsWith("//") ? "" : line);
            comment = comment && !line.contains("*/");
        }
        words(lines, wrong);
        members(lines, wrong);
        for (String w : wrong) System.out.println("FAIL language: " + w);
        if (!wrong.isEmpty()) System.exit(1);
        System.out.println("PASS language");
    }

    private static void words(List<String> lines, List<String> wrong) {
        Pattern no = Pattern.compile("\\b(throw|throws|try|catch|finally|synchronized|assert|package|protected|volatile|instanceof|Math\\.\\w*Exact)\\b|->|::|@|\" *\\+|\\+ *\"");
        int classes = 0;
        for (String line : lines) {
            if (no.matcher(line).find()) wrong.add(line);
            if (line.startsWith("import ") && !line.matches("import java\\.util\\.(Arrays|ArrayList|List|Iterator);")) wrong.add(line);
            if (line.matches(" *(public |private |static |final |abstract )*(class|record|enum|interface) .*")) classes++;
            if (line.contains(" class ") && !line.startsWith("public final class HemLine ") && !line.contains("static ")) wrong.add(line);
            if (line.contains("static") && line.contains(" = ") && !line.contains("static final")) wrong.add(line);
            Matcher call = Pattern.compile("\\b(Arrays|System)\\.(\\w+)").matcher(line);
            while (call.find()) {
                if (!List.of("Arrays.copyOf", "Arrays.copyOfRange", "Arrays.fill", "System.arraycopy").contains(call.group())) wrong.add(line);
            }
        }
        if (classes > 12) wrong.add(classes + " classes");
    }

    private static void members(List<String> lines, List<String> wrong) {
        List<String> face = new ArrayList<>();
        for (String line : lines) {
            Matcher m = METHOD.matcher(line);
            if (m.matches() && line.startsWith("    public")) face.add(m.group(4));
        }
        if (face.size() != 36) wrong.add(face.size() + " methods in the face, the constructor counted");
        for (int i = 0; i < lines.size(); i++) {
            Matcher m = METHOD.matcher(lines.get(i));
            if (!m.matches() || m.group(4).equals("if")) continue;
            if (!lines.get(i).startsWith("    public") && face.contains(m.group(4))) wrong.add(lines.get(i));
            if (m.group(5).split(",").length > 7) wrong.add(lines.get(i));
            int end = i;
            while (end < lines.size() && !lines.get(end).equals(m.group(1) + "}")) end++;
            if (end - i + 1 > 60) wrong.add(end - i + 1 + " lines: " + lines.get(i));
        }
    }
}
