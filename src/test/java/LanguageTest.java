import java.io.IOException;
import java.nio.file.Files;
import java.nio.file.Path;
import java.util.Arrays;
import java.util.HashSet;
import java.util.Set;
import java.util.regex.Matcher;
import java.util.regex.Pattern;

/** Those rules of LANGUAGE.md that can be seen in the text of the class, word by word. */
public final class LanguageTest {
    private static final String[] NOT_ALLOWED = {
        "\\bthrow\\b", "\\bthrows\\b", "\\btry\\b", "\\bcatch\\b", "\\bsynchronized\\b", "\\bassert\\b", "->", "::",
        "\\bprotected\\b", "\\bpackage\\b", "Exact\\b", "\\bObject\\b", "\\bSystem\\.(?!arraycopy)", "\\bNaN\\b",
        "\\bhashCode\\b", "\\bclone\\b", "\\bThread\\b", "\\bRandom\\b", "\\bString\\[", "\\[\\]\\[\\]\\[",
        "\\bimport (?!java\\.util\\.(Arrays|ArrayList|List|Iterator);)",
    };
    private static final int MOST_LINES = 60;
    private static final int MOST_PARAMETERS = 7;
    private static final Pattern METHOD = Pattern.compile(
        "^( {4}| {8})((?:public |private |static |final )*)([\\w\\[\\]]+ )?(\\w+)\\((.*)\\) \\{$");
    private static final Set<String> WORDS = new HashSet<>(Arrays.asList("if", "for", "while", "switch", "else"));

    private static int wrong = 0;

    private static void say(int line, String what) {
        wrong++;
        System.out.println("line " + (line + 1) + ": " + what);
    }

    /** The text without comments and without what stands in quotes. */
    private static String[] bare(String source) {
        String noComments = Pattern.compile("/\\*.*?\\*/", Pattern.DOTALL).matcher(source)
            .replaceAll(found -> found.group().replaceAll("[^\n]", " "));
        return noComments.replaceAll("\"[^\"\n]*\"", "\"\"").replaceAll("'[^'\n]+'", "' '")
            .replaceAll("//[^\n]*", "").split("\n", -1);
    }

    private static void checkMethods(String[] lines) {
        Set<String> face = new HashSet<>();
        for (java.lang.reflect.Method method : HoldChecker.class.getMethods()) {
            face.add(method.getName());
        }
        int begun = -1;
        String indent = "";
        for (int i = 0; i < lines.length; i++) {
            Matcher method = METHOD.matcher(lines[i]);
            if (method.matches() && !WORDS.contains(method.group(4))) {
                begun = i;
                indent = method.group(1);
                boolean isPublic = method.group(2).contains("public ");
                if (face.contains(method.group(4)) != isPublic && method.group(3) != null) {
                    say(i, "a name of the face that is not public, or a public one that is none of it");
                }
                if (method.group(5).split(",").length > MOST_PARAMETERS) {
                    say(i, "too many parameters");
                }
            }
            if (begun >= 0 && lines[i].equals(indent + "}")) {
                if (i - begun + 1 > MOST_LINES) {
                    say(begun, "a method of " + (i - begun + 1) + " lines");
                }
                begun = -1;
            }
        }
    }

    public static void main(String[] args) throws IOException {
        String source = Files.readString(Path.of("src/main/java/HoldChecker.java"));
        String[] lines = bare(source);
        int classes = 0;
        for (int i = 0; i < lines.length; i++) {
            for (String not : NOT_ALLOWED) {
                if (Pattern.compile(not).matcher(lines[i]).find()) {
                    say(i, "not allowed: " + not);
                }
            }
            if (lines[i].contains("static") && lines[i].contains("=") && !lines[i].contains("final")) {
                say(i, "a static field that is not final");
            }
            if (lines[i].matches("\\s*static \\{")) {
                say(i, "a static block");
            }
            if (lines[i].matches(".*\\bclass \\w+.*")) {
                classes++;
                if (i > 10 && !lines[i].contains("static")) {
                    say(i, "a class inside that is not static");
                }
            }
        }
        if (classes > 12) {
            say(0, classes + " classes");
        }
        for (int i = 0; i < source.length(); i++) {
            if (source.charAt(i) > 126) {
                say(0, "a sign above 126");
            }
        }
        checkMethods(lines);
        System.out.println("language: " + wrong + " wrong");
        System.exit(wrong == 0 ? 0 : 1);
    }
}
