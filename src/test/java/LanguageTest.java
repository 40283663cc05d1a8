import java.io.IOException;
import java.nio.file.Files;
import java.nio.file.Path;
import java.util.Arrays;
import java.util.HashMap;
import java.util.HashSet;
import java.util.Map;
import java.util.Set;
import java.util.TreeSet;
import java.util.regex.Matcher;
import java.util.regex.Pattern;

/** Those rules of LANGUAGE.md that can be seen in the text of the class, word by word. */
public final class LanguageTest {
    private static final String[] NOT_ALLOWED = {
        "\\bthrow\\b", "\\bthrows\\b", "\\btry\\b", "\\bcatch\\b", "\\bsynchronized\\b", "\\bassert\\b", "->", "::",
        "\\bprotected\\b", "\\bpackage\\b", "Exact\\b", "\\bObject\\b", "\\bSystem\\.(?!arraycopy)", "\\bNaN\\b",
        "\\bhashCode\\b", "\\bclone\\b", "\\bThread\\b", "\\bRandom\\b", "\\bString\\[", "\\[\\]\\[\\]\\[",
        "\\bimport (?!java\\.util\\.(Arrays|ArrayList|List|Iterator);)",
    };
    /** What the class uses of the library; more of what rule 4 allows may be put here. */
    private static final Set<String> LIBRARY = new HashSet<>(Arrays.asList(
        "Arrays.fill", "System.arraycopy", "Math.max", "Integer.numberOfTrailingZeros"));
    private static final Pattern LIBRARY_CALL =
        Pattern.compile("\\b(Arrays|System|Math|Integer|Long|Character|Boolean|String|List|Iterator)\\.(\\w+)");
    private static final Pattern LOOP = Pattern.compile("\\b(while|do|for) *[({]");
    private static final int MOST_DEEP = 8;
    private static final int MOST_FIELDS = 20;
    private static final int MOST_LINES = 60;
    private static final int MOST_PARAMETERS = 7;
    private static final Pattern METHOD = Pattern.compile(
        "^( {4}| {8})((?:public |private |static |final )*)([\\w\\[\\]]+ )?(\\w+)\\((.*)\\) \\{$");
    private static final Set<String> WORDS = new HashSet<>(Arrays.asList("if", "for", "while", "switch", "else"));

    private static int wrong = 0;

    private static void say(int line, String what) {
        wrong++;
        System.out.println("line " + (line + 1) + ": " + what);
    }

    /** The text without comments and without what stands in quotes. */
    private static String[] bare(String source) {
        String noComments = Pattern.compile("/\\*.*?\\*/", Pattern.DOTALL).matcher(source)
            .replaceAll(found -> found.group().replaceAll("[^\n]", " "));
        return noComments.replaceAll("\"[^\"\n]*\"", "\"\"").replaceAll("'[^'\n]+'", "' '")
            .replaceAll("//[^\n]*", "").split("\n", -1);
    }

    private static void checkMethods(String[] lines) {
        Set<String> face = new HashSet<>();
        for (java.lang.reflect.Method method : HoldChecker.class.getMethods()) {
            face.add(method.getName());
        }
        int begun = -1;
        String indent = "";
        for (int i = 0; i < lines.length; i++) {
            Matcher method = METHOD.matcher(lines[i]);
            if (method.matches() && !WORDS.contains(method.group(4))) {
                begun = i;
                indent = method.group(1);
                boolean isPublic = method.group(2).contains("public ");
                if (face.contains(method.group(4)) != isPublic && method.group(3) != null) {
                    say(i, "a name of the face that is not public, or a public one that is none of it");
                }
                if (method.group(5).split(",").length > MOST_PARAMETERS) {
                    say(i, "too many parameters");
                }
            }
            if (begun >= 0 && lines[i].equals(indent + "}")) {
                if (i - begun + 1 > MOST_LINES) {
                    say(begun, "a method of " + (i - begun + 1) + " lines");
                }
                begun = -1;
            }
        }
    }

    private static void checkLibrary(String[] lines) {
        Set<String> truths = new TreeSet<>();
        for (String line : lines) {
            Matcher truth = Pattern.compile("boolean\\[\\] (\\w+)").matcher(line);
            while (truth.find()) {
                truths.add(truth.group(1));
            }
        }
        for (int i = 0; i < lines.length; i++) {
            Matcher used = LIBRARY_CALL.matcher(lines[i]);
            while (used.find() && !lines[i].startsWith("import ")) {
                if (!LIBRARY.contains(used.group())) {
                    say(i, "not known to be in rule 4: " + used.group());
                }
            }
            Matcher filled = Pattern.compile("Arrays\\.fill\\((\\w+),").matcher(lines[i]);
            if (filled.find() && truths.contains(filled.group(1))) {
                say(i, "Arrays.fill is for arrays of numbers alone");
            }
        }
    }

    /** Fields are counted by class, beside the constants. */
    private static void checkFields() {
        Set<Class<?>> all = new HashSet<>(Arrays.asList(HoldChecker.class.getDeclaredClasses()));
        all.add(HoldChecker.class);
        for (Class<?> one : all) {
            int fields = 0;
            for (java.lang.reflect.Field field : one.getDeclaredFields()) {
                fields += java.lang.reflect.Modifier.isStatic(field.getModifiers()) ? 0 : 1;
            }
            if (fields > MOST_FIELDS) {
                say(0, one + " has " + fields + " fields");
            }
        }
    }

    /** The names of methods that each method may call: by name alone, so rather too many than too few. */
    private static Map<String, Set<String>> calls(String[] lines) {
        Map<String, Set<String>> calls = new HashMap<>();
        String in = null;
        String indent = "";
        for (String line : lines) {
            Matcher method = METHOD.matcher(line);
            if (method.matches() && method.group(3) != null && !WORDS.contains(method.group(4))) {
                in = method.group(4);
                indent = method.group(1);
                calls.computeIfAbsent(in, name -> new TreeSet<>());
            } else if (line.equals(indent + "}")) {
                in = null;
            } else if (in != null) {
                Matcher call = Pattern.compile("\\b(\\w+)\\(").matcher(line);
                while (call.find()) {
                    calls.get(in).add(call.group(1));
                }
            }
        }
        return calls;
    }

    private static int deepest(Map<String, Set<String>> calls, String method, int above) {
        if (above > MOST_DEEP || !calls.containsKey(method)) {
            return above;
        }
        int most = above + 1;
        for (String called : calls.get(method)) {
            most = Math.max(most, deepest(calls, called, above + 1));
        }
        return most;
    }

    private static void checkDepth(String[] lines) {
        Map<String, Set<String>> calls = calls(lines);
        for (java.lang.reflect.Method method : HoldChecker.class.getDeclaredMethods()) {
            String name = method.getName();
            if (!calls.containsKey(name)) {
                say(0, "the method " + name + " was not found");
            } else if (deepest(calls, name, 0) > MOST_DEEP) {
                say(0, name + " goes deeper than " + MOST_DEEP + " calls, or calls itself");
            }
        }
    }

    /** Where a loop's own line compares no number, no counter can be seen in it. */
    private static void checkLoops(String[] lines) {
        for (int i = 0; i < lines.length; i++) {
            if (LOOP.matcher(lines[i]).find() && !lines[i].contains("<") && !lines[i].contains(">")) {
                say(i, "a loop without a bound");
            }
        }
    }

    public static void main(String[] args) throws IOException {
        String source = Files.readString(Path.of("src/main/java/HoldChecker.java"));
        String[] lines = bare(source);
        int classes = 0;
        for (int i = 0; i < lines.length; i++) {
            for (String not : NOT_ALLOWED) {
                if (Pattern.compile(not).matcher(lines[i]).find()) {
                    say(i, "not allowed: " + not);
                }
            }
            if (lines[i].contains("static") && lines[i].contains("=") && !lines[i].contains("final")) {
                say(i, "a static field that is not final");
            }
            if (lines[i].matches("\\s*static \\{")) {
                say(i, "a static block");
            }
            if (lines[i].matches(".*\\bclass \\w+.*")) {
                classes++;
                if (i > 10 && !lines[i].contains("static")) {
                    say(i, "a class inside that is not static");
                }
            }
        }
        if (classes > 12) {
            say(0, classes + " classes");
        }
        for (int i = 0; i < source.length(); i++) {
            if (source.charAt(i) > 126) {
                say(0, "a sign above 126");
            }
        }
        checkMethods(lines);
        checkLibrary(lines);
        checkFields();
        checkDepth(lines);
        checkLoops(lines);
        System.out.println("language: " + wrong + " wrong");
        System.exit(wrong == 0 ? 0 : 1);
    }
}
