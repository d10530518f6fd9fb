import java.io.IOException;
import java.nio.charset.StandardCharsets;
import java.nio.file.Files;
import java.nio.file.Path;
import java.util.HashSet;
import java.util.List;
import java.util.Set;
import java.util.regex.Matcher;
import java.util.regex.Pattern;

/** Rules of ../shared/LANGUAGE.md that a look at the source can tell. */
public final class LanguageTest {
    private static final String[] FORBIDDEN = {"->", "::", "\\bcatch\\b", "\\btry\\b", "\\bfinally\\b",
        "\\bsynchronized\\b", "\\bassert\\b", "\\bstatic \\{", "\\bprotected\\b", "\\bObject\\b", "\\bMath\\.\\w+Exact\\b",
        "\\bSystem\\.(?!arraycopy)", "\\bThread\\b", "\\bRandom\\b", "\\bMap\\b", "\\bSet\\b", "\\bwhile \\(true\\)",
        "\\bfor \\(;;\\)", "[^\\x00-\\x7f]", "\\bpackage\\b", "\\bhashCode\\b", "\\bequals\\b", "\\btoString\\b",
        "\\b(Integer|Long|Math)\\.[A-Z_]+\\b", "\\bfloat\\b", "\\bdouble\\b"};

    private LanguageTest() {
    }

    public static void main(String[] args) throws IOException {
        String source = Files.readString(Path.of(args[0]), StandardCharsets.UTF_8);
        String code = source.replaceAll("(?s)/\\*.*?\\*/", "").replaceAll("//.*", "");
        for (String word : FORBIDDEN) {
            Check.same("the source has " + word, Pattern.compile(word).matcher(code).find(), false);
        }
        imports(code);
        sizes(source.lines().toList());
        statics(code);
        thrown(code);
        names(code);
        Check.finish("language");
    }

    private static void imports(String code) {
        Matcher m = Pattern.compile("import ([\\w.]+);").matcher(code);
        while (m.find()) {
            String name = m.group(1);
            Check.same("import of " + name,
                name.equals("java.util.Arrays") || name.equals("java.util.NoSuchElementException"), true);
        }
    }

    /** Methods of some sixty lines at the most, some twelve classes. */
    private static void sizes(List<String> lines) {
        int start = -1;
        int classes = 0;
        for (int i = 0; i < lines.size(); i++) {
            String line = lines.get(i);
            classes += line.matches(" *(private |public )?(static )?final class .*") ? 1 : 0;
            int indent = line.length() - line.stripLeading().length();
            if (line.matches(" +[\\w\\[\\] ]+\\(.*\\{") && !line.contains(" class ") && (indent == 4 || indent == 8)
                    && !line.strip().matches("(if|for|while|switch|else|do)\\b.*")) {
                start = i;
            } else if (start >= 0 && line.equals(lines.get(start).replaceAll("\\S.*", "") + "}")) {
                Check.same("the method at line " + (start + 1) + " is short", i - start <= 60, true);
                start = -1;
            }
        }
        Check.same("classes", classes <= 12, true);
    }

    private static void statics(String code) {
        Matcher m = Pattern.compile("static (?!final)[\\w\\[\\]<>]+ \\w+( =|;)").matcher(code);
        Check.same("a static field that is not final", m.find(), false);
    }

    /** Rules 1 and 11: no method but one of the face has its name, and none has more than seven parameters. */
    private static void names(String code) {
        Set<String> face = new HashSet<>();
        Matcher m = Pattern.compile("(?m)^    public (?:int|boolean) (\\w+)\\(").matcher(code);
        while (m.find()) {
            Check.same("the face has " + m.group(1) + " once", face.add(m.group(1)), true);
        }
        Check.same("methods of the face", face.size(), 39);
        m = Pattern.compile("(?m)^ +(public |private |static )*[\\w\\[\\]]+ (\\w+)\\(([^)]*)\\)[\\w ]*\\{$").matcher(code);
        while (m.find()) {
            boolean open = m.group().contains("public ");
            Check.same("a method of a name of the face: " + m.group(2), open || !face.contains(m.group(2)), true);
            Check.same("parameters of " + m.group(2), m.group(3).split(",").length <= 7, true);
        }
    }

    private static void thrown(String code) {
        Matcher m = Pattern.compile("throw new (\\w+)").matcher(code);
        while (m.find()) {
            Check.same("throw of " + m.group(1), m.group(1).equals("NoSuchElementException"), true);
        }
    }
}
