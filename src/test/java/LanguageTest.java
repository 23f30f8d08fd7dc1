import java.io.IOException;
import java.nio.file.Files;
import java.nio.file.Path;
import java.util.ArrayList;
import java.util.List;
import java.util.Set;
import java.util.regex.Matcher;
import java.util.regex.Pattern;

/** What can be seen of LANGUAGE.md in the text of the class: words that it rules out, and how long things may be. */
public final class LanguageTest {
    private static final Path SOURCE = Path.of("src/main/java/BrushGlass.java");
    private static final String[] RULED_OUT = {
        "->", "::", "\\bsynchronized\\b", "\\bassert\\b", "\\bfinally\\b", "\\bvar\\b", "\\bcatch\\b", "\\bpackage\\b",
        "\\bstatic \\{", "\\bprotected\\b", "Exception\\.", "Exact\\b", "Math\\.(?!max|min|abs|floorDiv|floorMod)",
        "\" \\+", "\\+ \"", "System\\.(?!arraycopy)", "Arrays\\.(?!copyOf|copyOfRange|fill)"};
    private static final Set<String> IMPORTS = Set.of("import java.util.Arrays;", "import java.util.NoSuchElementException;",
        "import java.util.ArrayList;", "import java.util.List;", "import java.util.Iterator;");
    private static final Pattern METHOD = Pattern.compile(" *(?:[a-z]+ )*(?:[A-Za-z]\\w*(?:\\[\\])* )?(\\w+)\\((.*)\\)(?: throws \\w+)? \\{");

    public static void main(String[] args) throws IOException {
        List<String> lines = Files.readAllLines(SOURCE);
        List<String> code = new ArrayList<>();
        for (String line : lines) {
            String told = line.strip();
            if (!told.startsWith("//") && !told.startsWith("/**") && !told.startsWith("*")) {
                code.add(line);
            }
        }
        words(code);
        classes(code);
        methods(code);
        Check.end();
    }

    private static void words(List<String> code) {
        Check.on("rules 2, 4, 5, 6, 10");
        for (String line : code) {
            for (String word : RULED_OUT) {
                Check.due(word + " in " + line.strip(), Pattern.compile(word).matcher(line).find(), false);
            }
            if (line.startsWith("import")) {
                Check.due(line, IMPORTS.contains(line), true);
            }
            Check.due("signs of " + line, line.chars().allMatch(c -> c > 0 && c < 128), true);
            boolean isStatic = line.matches(" *(private |public )?static (?!final ).*");
            Check.due("a static field that isn't final: " + line.strip(), isStatic && line.endsWith(";"), false);
        }
    }

    private static void classes(List<String> code) {
        Check.on("rules 1, 11");
        int classes = 0;
        for (String line : code) {
            boolean isClass = line.matches(".*\\b(class|record|enum|interface) \\w+.*\\{");
            classes += isClass ? 1 : 0;
            boolean asTold = line.startsWith("public final class BrushGlass") || line.startsWith("    private static final class");
            Check.due(line, isClass && !asTold, false);
        }
        Check.due("classes, at most some twelve: " + classes, classes <= 13, true);
    }

    private static void methods(List<String> code) {
        Check.on("rule 11");
        int begun = -1;
        String head = "";
        for (int i = 0; i < code.size(); i++) {
            String line = code.get(i);
            int depth = line.length() - line.stripLeading().length();
            Matcher method = METHOD.matcher(line);
            if ((depth == 4 || depth == 8) && method.matches() && !line.strip().matches("(if|for|while|switch|else|try|\\}).*")) {
                begun = i;
                head = " ".repeat(depth) + "}";
                Check.due("parameters of " + line.strip(), method.group(2).split(",").length <= 7, true);
            } else if (begun >= 0 && line.equals(head)) {
                Check.due("lines of " + code.get(begun).strip(), i - begun < 60, true);
                begun = -1;
            }
        }
    }
}
