import java.io.IOException;
import java.nio.file.Files;
import java.nio.file.Path;
import java.util.ArrayList;
import java.util.List;
import java.util.TreeSet;
import java.util.regex.Matcher;
import java.util.regex.Pattern;

/** Looks for what the rules of the language leave out and a search through the text can find. */
public final class LanguageTest {
    private static final String[] LEFT_OUT = {"->", "::", "@", "\\bvar\\b", "\\bsynchronized\\b", "\\bfinally\\b", "\\bassert\\b",
        "\\btry\\b", "\\bcatch\\b", "\\bprotected\\b", "\\bstatic \\{", "Exact\\(", "\\bString\\.", "\\bMath\\.(floor|ceil|sqrt)\\(",
        "\\.getMessage\\(", "\\bhashCode\\b", "\\btoString\\b", "\\bdouble\\b", "\\bfloat\\b", "\\bObject\\b", "System\\.[^a]"};

    public static void main(String[] args) throws IOException {
        String source = Files.readString(Path.of("src/main/java/WaistSand.java"));
        String code = source.replaceAll("\"[^\"]*\"", "\"\"").replaceAll("/\\*\\*.*?\\*/", "").replaceAll("//[^\n]*", "");
        for (String pattern : LEFT_OUT) {
            Check.due("found " + pattern, Pattern.compile(pattern).matcher(code).find(), false);
        }
        Check.due("signs", source.chars().allMatch(c -> c < 127), true);
        Check.due("classes", count(code, "\\b(class|interface|enum|record) \\w+") <= 12, true);
        Check.due("imports", count(code, "(?m)^import "), 2);
        rows(code);
        methods(code);
        Check.ends("LanguageTest");
    }

    private static int count(String code, String pattern) {
        return (int) Pattern.compile(pattern).matcher(code).results().count();
    }

    /** Rule 4: Arrays' functions over rows of numbers alone. */
    private static void rows(String code) {
        Matcher uses = Pattern.compile("Arrays\\.\\w+\\((\\w+)").matcher(code);
        while (uses.find()) {
            boolean ofNumbers = count(code, "\\b(int|long|byte|char|short)\\[\\] " + uses.group(1) + "\\b") > 0;
            boolean ofOthers = count(code, "\\b(boolean|[A-Z]\\w+)\\[\\] " + uses.group(1) + "\\b") > 0;
            Check.due("numbers in " + uses.group(1), ofNumbers && !ofOthers, true);
        }
    }

    private static void methods(String code) {
        Matcher heads = Pattern.compile("(?m)^( +)([\\w ]*[\\w\\]]) (\\w+)\\(([^)]*)\\)[^;{]*\\{$").matcher(code);
        TreeSet<String> face = new TreeSet<>();
        List<String> others = new ArrayList<>();
        while (heads.find()) {
            String kind = heads.group(2);
            if (kind.startsWith("return") || kind.startsWith("else") || kind.startsWith("new")) {
                continue;
            }
            if (kind.startsWith("public")) {
                face.add(heads.group(3));
            } else {
                others.add(heads.group(3));
            }
            Check.due("parameters of " + heads.group(3), heads.group(4).split(",").length <= 7, true);
            int end = code.indexOf("\n" + heads.group(1) + "}", heads.end());
            Check.due("lines of " + heads.group(3), code.substring(heads.start(), end).split("\n").length <= 60, true);
        }
        Check.due("the constructor and methods of the face", face.size(), 45);
        for (String name : others) {
            Check.due("private method with a public one's name: " + name, face.contains(name), false);
        }
    }
}
