import java.io.IOException;
import java.lang.reflect.Method;
import java.nio.file.Files;
import java.nio.file.Path;
import java.util.ArrayList;
import java.util.HashMap;
import java.util.List;
import java.util.Map;
import java.util.regex.Matcher;
import java.util.regex.Pattern;
import java.util.stream.Stream;

/** What README.md says of the class and of the tests holds. */
public final class ReadmeTest {
    private static final Pattern QUESTION = Pattern.compile("^checker\\.(\\w+)\\((.*)\\); +// (-?\\d+): .*$");
    /** feed() and load() stand in the README's own method. */
    private static final String LOADING = "feed load";

    private static int wrong = 0;
    private static int asked = 0;

    private static void say(String what) {
        wrong++;
        System.out.println(what);
    }

    /** The README's method, word by word. */
    static int load(HoldChecker checker, String text) {
        for (int i = 0; i < text.length(); i += 20) {
            int[] four = new int[5];
            for (int j = 0; j < 20; j++) {
                int sign = i + j < text.length() ? text.charAt(i + j) : ' ';
                four[j / 4] = four[j / 4] << 8 | sign;
            }
            checker.feed(four[0], four[1], four[2], four[3], four[4]);
        }
        return checker.load(text.length());
    }

    /** What stands between marks of a sort, from one such block on to the last. */
    private static List<String> blocks(String readme, String sort) {
        List<String> found = new ArrayList<>();
        Matcher block = Pattern.compile("```" + sort + "\n(.*?)```", Pattern.DOTALL).matcher(readme);
        while (block.find()) {
            found.add(block.group(1));
        }
        return found;
    }

    private static Map<String, Method> face() {
        Map<String, Method> calls = new HashMap<>();
        for (Method method : HoldChecker.class.getDeclaredMethods()) {
            if (java.lang.reflect.Modifier.isPublic(method.getModifiers())) {
                calls.put(method.getName(), method);
            }
        }
        return calls;
    }

    private static Object[] arguments(Method call, String told) {
        String[] words = told.isEmpty() ? new String[0] : told.split(", ");
        Object[] values = new Object[words.length];
        for (int i = 0; i < words.length; i++) {
            boolean isNumber = call.getParameterTypes()[i] == int.class;
            values[i] = isNumber ? (Object) Integer.valueOf(words[i]) : (Object) Boolean.valueOf(words[i]);
        }
        return values;
    }

    private static void askAll(HoldChecker checker, String questions) throws ReflectiveOperationException {
        Map<String, Method> calls = face();
        List<String> unasked = new ArrayList<>(calls.keySet());
        unasked.removeAll(List.of(LOADING.split(" ")));
        for (String line : questions.split("\n")) {
            Matcher question = QUESTION.matcher(line);
            if (line.isEmpty()) {
                continue;
            }
            if (!question.matches() || !calls.containsKey(question.group(1))) {
                say("no question: " + line);
                continue;
            }
            Method call = calls.get(question.group(1));
            Object got = call.invoke(checker, arguments(call, question.group(2)));
            asked++;
            unasked.remove(call.getName());
            if (!got.equals(Integer.valueOf(question.group(3)))) {
                say("answered " + got + ": " + line);
            }
        }
        if (!unasked.isEmpty()) {
            say("the README asks nothing of " + unasked);
        }
    }

    private static void namesEveryFile(String readme) throws IOException {
        try (Stream<Path> files = Files.list(Path.of("src/test/java"))) {
            files.map(file -> file.getFileName().toString().replace(".java", ""))
                .filter(name -> !readme.contains("`" + name + "`"))
                .forEach(name -> say("the README does not name " + name));
        }
        Matcher named = Pattern.compile("`(\\w+Test)`").matcher(readme);
        while (named.find()) {
            if (!Files.exists(Path.of("src/test/java/" + named.group(1) + ".java"))) {
                say("there is no " + named.group(1));
            }
        }
    }

    public static void main(String[] args) throws IOException, ReflectiveOperationException {
        String readme = Files.readString(Path.of("README.md"));
        String own = Files.readString(Path.of("src/test/java/ReadmeTest.java"));
        List<String> texts = blocks(readme, "text");
        List<String> codes = blocks(readme, "java");
        if (texts.size() != 1 || codes.size() != 2) {
            say("the README has other blocks than a text, a method and questions");
        } else {
            if (!own.replaceAll("\\s+", " ").contains(codes.get(0).trim().replaceAll("\\s+", " "))) {
                say("the README's method is not the one here");
            }
            HoldChecker checker = new HoldChecker();
            load(checker, texts.get(0));
            askAll(checker, codes.get(1));
        }
        namesEveryFile(readme);
        System.out.println("readme: " + asked + " answers, " + wrong + " wrong");
        System.exit(wrong == 0 ? 0 : 1);
    }
}
