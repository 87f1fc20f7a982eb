import java.io.IOException;
import java.nio.file.Files;
import java.nio.file.Path;
import java.util.regex.Matcher;
import java.util.regex.Pattern;

/** Some rules of LANGUAGE.md, as far as they can be seen from the text of the program. */
public final class LanguageTest {
    private static final String[] NEVER = {"->", "::", "Exact\\(", "\\bfinally\\b", "\\bsynchronized\\b", "\\bassert\\b",
        "\\btry\\b", "\\bcatch\\b", "\\bvar\\b", "static\\s*\\{", "\"\\s*\\+", "\\+\\s*\"", "\\bdouble\\b", "\\bfloat\\b",
        "System\\.(?!arraycopy)", "\\bgetMessage\\b", "^package\\b", "\\bprotected\\b", "java\\.(?!util\\.NoSuchElementException;)"};

    public static void main(String[] args) throws IOException {
        String text = Files.readString(Path.of("src/main/java/StormParting.java"));
        for (int i = 0; i < text.length(); i++) {
            if (text.charAt(i) > 126) {
                Check.due("a sign above 126 at " + i, text.charAt(i), 0);
            }
        }
        String code = text.replaceAll("(?s)/\\*.*?\\*/", "").replaceAll("//[^\n]*", "");
        for (String never : NEVER) {
            Matcher found = Pattern.compile(never, Pattern.MULTILINE).matcher(code);
            Check.due("'" + never + "'", found.find(), false);
        }
        Check.due("at most twelve classes", count(code, "\\b(class|record|enum|interface) [A-Z]") <= 12, true);
        throwsAreListed(code);
        methodsAreShort(code);
        Check.end();
    }

    private static int count(String code, String pattern) {
        Matcher m = Pattern.compile(pattern).matcher(code);
        int n = 0;
        while (m.find()) {
            n++;
        }
        return n;
    }

    private static void throwsAreListed(String code) {
        Matcher m = Pattern.compile("\\bthrow\\b([^;]*);").matcher(code);
        while (m.find()) {
            Check.due("throw" + m.group(1), m.group(1).equals(" new NoSuchElementException()"), true);
        }
    }

    private static void methodsAreShort(String code) {
        Matcher m = Pattern.compile("^( +)[a-zA-Z][^;=\n]*\\(([^)]*)\\)[^;\n]*\\{$", Pattern.MULTILINE).matcher(code);
        while (m.find()) {
            if (m.group().matches("(?s) +(if|for|while|switch|return)\\b.*|.*\\belse\\b.*")) {
                continue;
            }
            int close = code.indexOf("\n" + m.group(1) + "}", m.end());
            long lines = code.substring(m.end(), close).chars().filter(c -> c == '\n').count();
            Check.due("at most sixty lines:" + m.group(), lines <= 60, true);
            Check.due("at most seven parameters:" + m.group(), m.group(2).split(",").length <= 7, true);
        }
    }
}
