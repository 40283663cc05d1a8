import java.util.Random;
import java.util.function.ToIntBiFunction;

/** Texts and calls made by chance (the same ones each time), asked of the class and of the model. */
public final class ModelTest {
    private static int wrong = 0;
    private static long asked = 0;

    /** What an object answers behind its 512th call is free. */
    private static final int MOST_CALLS = 512;
    /** About what a text and the questions about it take in mixed(). */
    private static final int CALLS_OF_A_TEXT = 230;

    private final Random random;
    private HoldChecker x = new HoldChecker();
    private Model model = new Model();
    private String text = "";
    private int calls;

    private ModelTest(long seed) {
        random = new Random(seed);
    }

    /** A call that has a STATUS. */
    private void same(String call, int got, int due) {
        sameAnswer(call, got, due);
        sameAnswer("status of " + call, x.status(), model.status());
    }

    private void sameAnswer(String call, int got, int due) {
        asked++;
        calls++;
        if (calls == MOST_CALLS + 1) {
            wrong++;
            System.out.println("asked too often of\n" + text);
        }
        if (got != due) {
            wrong++;
            if (wrong <= 20) {
                System.out.println(call + " answered " + got + ", due is " + due + " of\n" + text);
            }
        }
    }

    private void feedAndLoad(String made, int less) {
        text = made;
        StringBuilder padded = new StringBuilder(made);
        while (padded.length() % 20 != 0) {
            padded.append(' ');
        }
        for (int i = 0; i < padded.length(); i += 20) {
            int[] ints = new int[5];
            for (int j = 0; j < 20; j++) {
                ints[j / 4] = ints[j / 4] << 8 | padded.charAt(i + j) & 255;
            }
            sameAnswer("feed", x.feed(ints[0], ints[1], ints[2], ints[3], ints[4]),
                model.feed(ints[0], ints[1], ints[2], ints[3], ints[4]));
        }
        int n = made.length() - less;
        same("load " + n, x.load(n), model.load(n));
        sameAnswer("fault 0", x.fault(0), model.fault(0));
        sameAnswer("fault 1", x.fault(1), model.fault(1));
    }

    /** A number about a range, sometimes outside it. */
    private int about(int count) {
        return random.nextInt(count + 3) - 1 - random.nextInt(2);
    }

    private void askKinds() {
        int k = random.nextInt(6) == 0 ? about(4) : random.nextInt(Math.max(1, countOf(0)));
        int m = about(4);
        int s = about(4);
        int o = about(5);
        int what = about(6);
        boolean yes = random.nextBoolean();
        same("many " + what, x.many(what), model.many(what));
        same("kind " + k + " " + what, x.kind(k, what), model.kind(k, what));
        same("method " + k + " " + m + " " + what, x.method(k, m, what), model.method(k, m, what));
        same("comes " + k + " " + m + " " + s + " " + yes, x.comes(k, m, s, yes), model.comes(k, m, s, yes));
        same("toEnd " + k + " " + s, x.toEnd(k, s), model.toEnd(k, s));
        same("towards " + k + " " + s, x.towards(k, s), model.towards(k, s));
        same("alike " + k + " " + s + " " + o, x.alike(k, s, o), model.alike(k, s, o));
        int n = about(13);
        same("rows " + k + " " + n + " " + yes, x.rows(k, n, yes), model.rows(k, n, yes));
        same("variable " + m, x.variable(m), model.variable(m));
    }

    private void tell() {
        int k = random.nextInt(Math.max(1, countOf(0)));
        int m = about(4);
        int s = about(4);
        int to = about(4);
        boolean yes = random.nextBoolean();
        same("tell " + k + " " + m + " " + s + " " + yes + " " + to, x.tell(k, m, s, yes, to),
            model.tell(k, m, s, yes, to));
    }

    private void askProgram(int statements) {
        int i = about(statements);
        int what = about(7);
        int v = about(5);
        same("statement " + i + " " + what, x.statement(i, what), model.statement(i, what));
        same("check " + what, x.check(what), model.check(what));
        same("at " + i + " " + v + " " + what, x.at(i, v, what), model.at(i, v, what));
        same("paths " + what, x.paths(what), model.paths(what));
        same("path " + i, x.path(i), model.path(i));
        same("truly " + i + " " + v + " " + what, x.truly(i, v, what), model.truly(i, v, what));
        same("left " + v, x.left(v), model.left(v));
        same("never " + i, x.never(i), model.never(i));
        int seed = random.nextInt(20) == 0 ? 65530 + random.nextInt(10) : about(65536);
        int n = 1 + about(10);
        same("run " + seed + " " + what, x.run(seed, what), model.run(seed, what));
        same("runs " + seed + " " + n + " " + what, x.runs(seed, n, what), model.runs(seed, n, what));
    }

    private void askAll(String name, int most, ToIntBiFunction<Integer, Integer> got,
        ToIntBiFunction<Integer, Integer> due, int mostWhat) {
        for (int i = -1; i <= most; i++) {
            for (int what = 0; what <= mostWhat; what++) {
                renewIfDue();
                same(name + " " + i + " " + what, got.applyAsInt(i, what), due.applyAsInt(i, what));
            }
        }
    }

    /** Another object with the same text, ahead of the old one has been asked too often. */
    private void renewIfDue() {
        if (calls > MOST_CALLS - 4) {
            x = new HoldChecker();
            model = new Model();
            calls = 0;
            feedAndLoad(text, 0);
        }
    }

    private int countOf(int what) {
        int due = model.many(what);
        same("many " + what, x.many(what), due);
        return due;
    }

    /** Everything that can be asked of a program, whatever number of calls that takes. */
    private void askEverything(int statements) {
        askAll("statement", statements, (i, w) -> x.statement(i, w), (i, w) -> model.statement(i, w), 6);
        askAll("check", 0, (i, w) -> x.check(w), (i, w) -> model.check(w), 4);
        askAll("paths", 0, (i, w) -> x.paths(w), (i, w) -> model.paths(w), 6);
        askAll("path", statements + 3, (i, w) -> x.path(i), (i, w) -> model.path(i), 0);
        askAll("never", statements, (i, w) -> x.never(i), (i, w) -> model.never(i), 0);
        askAll("left", 4, (i, w) -> x.left(i), (i, w) -> model.left(i), 0);
        askAll("without", statements, (i, w) -> x.without(i), (i, w) -> model.without(i), 0);
        askAll("run", 8, (i, w) -> x.run(i, w), (i, w) -> model.run(i, w), 3);
        for (int v = 0; v < 6; v++) {
            int its = v;
            askAll("at, " + v, statements + 1, (i, w) -> x.at(i, its, w), (i, w) -> model.at(i, its, w), 4);
            askAll("truly, " + v, statements + 1, (i, w) -> x.truly(i, its, w),
                (i, w) -> model.truly(i, its, w), 3);
        }
        renewIfDue();
        same("mend", x.mend(), model.mend());
    }

    private void mixed() {
        Texts texts = new Texts(random);
        while (calls <= MOST_CALLS - CALLS_OF_A_TEXT) {
            boolean spoil = random.nextInt(4) == 0;
            feedAndLoad(spoil ? texts.spoiled() : texts.good(), random.nextInt(10) == 0 ? random.nextInt(4) - 1 : 0);
            int statements = countOf(2);
            for (int i = 0; i < 3; i++) {
                askKinds();
                askProgram(statements);
                if (random.nextInt(2) == 0) {
                    tell();
                }
            }
            int i = about(statements);
            same("without " + i, x.without(i), model.without(i));
            same("mend", x.mend(), model.mend());
        }
    }

    private void thorough() {
        feedAndLoad(new Texts(random).good(), 0);
        askEverything(countOf(2));
    }

    private void faults() {
        Texts texts = new Texts(random);
        for (int i = 0; i < 8; i++) {
            feedAndLoad(texts.spoiled(), 0);
        }
    }

    public static void main(String[] args) {
        int rounds = args.length > 0 ? Integer.parseInt(args[0]) : 1;
        long from = args.length > 1 ? Long.parseLong(args[1]) : 0;
        for (long seed = from; seed < from + 400L * rounds; seed++) {
            new ModelTest(3 * seed).thorough();
            new ModelTest(3 * seed + 1).mixed();
            new ModelTest(-3 * seed - 1).mixed();
            for (int i = 0; i < 5; i++) {
                new ModelTest(1000003 * (3 * seed + 2) + i).faults();
            }
        }
        System.out.println("model: " + asked + " calls, " + wrong + " wrong");
        System.exit(wrong == 0 ? 0 : 1);
    }
}
