import java.io.IOException;
import java.nio.charset.StandardCharsets;
import java.nio.file.Files;
import java.nio.file.Path;
import java.util.List;
import java.util.regex.Matcher;
import java.util.regex.Pattern;

/** Rules of ../shared/LANGUAGE.md that a look at the source can tell. */
public final class LanguageTest {
    private static final String[] FORBIDDEN = {"->", "::", "\\bcatch\\b", "\\btry\\b", "\\bfinally\\b",
        "\\bsynchronized\\b", "\\bassert\\b", "\\bstatic \\{", "\\bprotected\\b", "\\bObject\\b", "\\bMath\\.\\w+Exact\\b",
        "\\bSystem\\.(?!arraycopy)", "\\bThread\\b", "\\bRandom\\b", "\\bMap\\b", "\\bSet\\b", "\\bwhile \\(true\\)",
        "\\bfor \\(;;\\)", "[^\\x00-\\x7f]", "\\bpackage\\b", "\\bhashCode\\b", "\\bequals\\b", "\\btoString\\b"};

    private LanguageTest() {
    }

    public static void main(String[] args) throws IOException {
        String source = Files.readString(Path.of(args[0]), StandardCharsets.UTF_8);
        String code = source.replaceAll("(?s)/\\*.*?\\*/", "").replaceAll("//.*", "");
        for (String word : FORBIDDEN) {
            Check.same("the source has " + word, Pattern.compile(word).matcher(code).find(), false);
        }
        imports(code);
        sizes(source.lines().toList());
        statics(code);
        thrown(code);
        Check.finish("language");
    }

    private static void imports(String code) {
        Matcher m = Pattern.compile("import ([\\w.]+);").matcher(code);
        while (m.find()) {
            String name = m.group(1);
            Check.same("import of " + name,
                name.equals("java.util.Arrays") || name.equals("java.util.NoSuchElementException"), true);
        }
    }

    /** Methods of some sixty lines at the most, some twelve classes. */
    private static void sizes(List<String> lines) {
        int start = -1;
        int classes = 0;
        for (int i = 0; i < lines.size(); i++) {
            String line = lines.get(i);
            classes += line.matches(" *(private |public )?(static )?final class .*") ? 1 : 0;
            int indent = line.length() - line.stripLeading().length();
            if (line.matches(" +[\\w\\[\\] ]+\\(.*\\{") && !line.contains(" class ") && (indent == 4 || indent == 8)
                    && !line.strip().matches("(if|for|while|switch|else|do)\\b.*")) {
                start = i;
            } else if (start >= 0 && line.equals(lines.get(start).replaceAll("\\S.*", "") + "}")) {
                Check.same("the method at line " + (start + 1) + " is short", i - start <= 60, true);
                start = -1;
            }
        }
        Check.same("classes", classes <= 12, true);
    }

    private static void statics(String code) {
        Matcher m = Pattern.compile("static (?!final)[\\w\\[\\]<>]+ \\w+( =|;)").matcher(code);
        Check.same("a static field that is not final", m.find(), false);
    }

    private static void thrown(String code) {
        Matcher m = Pattern.compile("throw new (\\w+)").matcher(code);
        while (m.find()) {
            Check.same("throw of " + m.group(1), m.group(1).equals("NoSuchElementException"), true);
        }
    }
}
