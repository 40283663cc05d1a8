import java.io.IOException;
import java.nio.file.Files;
import java.nio.file.Path;
import java.util.function.Supplier;

/** What the tests worked out by hand share: asking objects, and saying which answers are not the due ones. */
abstract class Asking {
    static final int NONE = HoldChecker.NONE;
    static final int LEAST = Integer.MIN_VALUE;
    static final int MOST = Integer.MAX_VALUE;

    /** STATES shut 0 (the end), open 1, bad 2; METHODS begin 0, close 1, read 2, more 3, size 4. */
    static final String FILE_KIND =
        "kind file shut open bad;end file shut;call file begin shut open;call file close open shut;"
        + "call file read open open;test file more open open shut;look file size shut;look file size open;";
    static final String FILE = FILE_KIND + "var a file;var b file;var c file;";

    private static int wrong = 0;
    private static int asked = 0;
    private static int sentences = 0;
    private static String about = "";

    static void about(String what) {
        about = what;
    }

    /**
     * What follows tests a sentence of the document, told here word by word. That it still stands there
     * is only noted: another wording is no fault of the class.
     */
    static void sentence(String quote) {
        sentences++;
        about = "'" + quote + "'";
        String document = document();
        if (!document.isEmpty() && !document.contains(plain(quote))) {
            System.out.println("note: no longer in DOC.md: " + quote);
        }
    }

    private static String document() {
        Path path = Path.of("../shared/DOC.md");
        try {
            return Files.exists(path) ? plain(Files.readString(path)) : "";
        } catch (IOException unread) {
            return "";
        }
    }

    private static String plain(String text) {
        return text.replace("`", "").replaceAll("\\s+", " ");
    }

    static void due(String what, long got, long want) {
        asked++;
        if (got != want) {
            wrong++;
            System.out.println(about + ": " + what + " answered " + got + ", due is " + want);
        }
    }

    /** An answer that comes with STATUS 0. */
    static void gives(HoldChecker x, String what, int got, int want) {
        due(what, got, want);
        due(what + ", status", x.status(), 0);
    }

    static void refuses(HoldChecker x, String what, int got, int status) {
        due(what, got, NONE);
        due(what + ", status", x.status(), status);
    }

    static String times(int count, String text) {
        return text.repeat(count);
    }

    /** Puts a text on the tape, with blanks behind it up to the next twenty bytes. */
    static void feed(HoldChecker x, String text) {
        StringBuilder padded = new StringBuilder(text);
        while (padded.length() % 20 != 0) {
            padded.append(' ');
        }
        for (int i = 0; i < padded.length(); i += 20) {
            int[] four = new int[5];
            for (int j = 0; j < 20; j++) {
                four[j / 4] = four[j / 4] << 8 | padded.charAt(i + j) & 255;
            }
            x.feed(four[0], four[1], four[2], four[3], four[4]);
        }
    }

    static void load(HoldChecker x, String text) {
        feed(x, text);
        x.load(text.length());
        due("status of load of " + text, x.status(), 0);
    }

    static HoldChecker loaded(String text) {
        HoldChecker x = new HoldChecker();
        load(x, text);
        return x;
    }

    static HoldChecker file(String program) {
        return loaded(FILE + program);
    }

    /** The mark ^ stands ahead of the TOKEN that is at fault. */
    static void faulty(int sort, String marked) {
        int place = marked.indexOf('^');
        String text = marked.replace("^", "");
        HoldChecker x = new HoldChecker();
        feed(x, text);
        refuses(x, "load of " + marked, x.load(text.length()), 9);
        due("fault of " + marked, x.fault(0), sort);
        due("its place in " + marked, x.fault(1), place);
    }

    static void statementIs(HoldChecker x, int i, int... due) {
        for (int what = 0; what < due.length; what++) {
            gives(x, "statement " + i + " " + what, x.statement(i, what), due[what]);
        }
    }

    /** HOW, STATES, MAY, MUST of a VARIABLE at a PLACE, and the reason why that is WRONG. */
    static void atIs(HoldChecker x, int place, int v, int... due) {
        for (int what = 0; what < due.length; what++) {
            gives(x, "at " + place + " " + v + " " + what, x.at(place, v, what), due[what]);
        }
    }

    static void trulyIs(HoldChecker x, int place, int v, int... due) {
        for (int what = 0; what < due.length; what++) {
            gives(x, "truly " + place + " " + v + " " + what, x.truly(place, v, what), due[what]);
        }
    }

    /** NONE stands for an answer that there is none of. */
    static void pathsAre(HoldChecker x, int... due) {
        for (int what = 0; what < due.length; what++) {
            if (due[what] == NONE) {
                refuses(x, "paths " + what, x.paths(what), 5);
            } else {
                gives(x, "paths " + what, x.paths(what), due[what]);
            }
        }
    }

    static void runIs(HoldChecker x, int seed, int... due) {
        for (int what = 0; what < due.length; what++) {
            gives(x, "run " + seed + " " + what, x.run(seed, what), due[what]);
        }
    }

    /**
     * Six things that come to either of two STATES, at a choice for each: 6 CONFIGURATIONS till all are
     * new, 1, 2, 4 .. 32 ahead of the choices and as many within them, 64 behind: 196. A loop{} behind
     * the first i choices, loops[i] times, adds 2 to the power of i each time.
     */
    static String manyText(int... loops) {
        StringBuilder text = new StringBuilder("kind k a b;end k a b;call k m a b;");
        for (char v = 'a'; v <= 'f'; v++) {
            text.append("var ").append(v).append(" k;");
        }
        for (char v = 'a'; v <= 'f'; v++) {
            text.append("new ").append(v).append(";");
        }
        for (int i = 0; i <= 6; i++) {
            text.append(times(i < loops.length ? loops[i] : 0, "loop{}"));
            if (i < 6) {
                text.append("maybe{do ").append((char) ('a' + i)).append(" m;}");
            }
        }
        return text.toString();
    }

    /** 1,000 CONFIGURATIONS, the most that there may be. */
    static String mostConfigurations() {
        return manyText(0, 0, 1, 0, 0, 1, 12);
    }

    /** 1,001 CONFIGURATIONS: MORE. */
    static String moreConfigurations() {
        return manyText(1, 0, 1, 0, 0, 1, 12);
    }

    /**
     * Everything that an object can be asked but the tape, in one text. An object is made anew, always in
     * the same way, ahead of it can have been asked 512 times.
     */
    static String allAnswers(Supplier<HoldChecker> made) {
        StringBuilder all = new StringBuilder();
        for (int i = -1; i <= 12; i++) {
            HoldChecker x = made.get();
            for (int what = 0; what <= 6; what++) {
                all.append(x.many(what)).append(' ').append(x.kind(i, what)).append(' ')
                    .append(x.method(0, i, what)).append(' ').append(x.toEnd(what, i)).append(' ')
                    .append(x.rows(what, i, true)).append(' ').append(x.statement(i, what)).append(' ')
                    .append(x.check(what)).append(' ').append(x.paths(what)).append(' ')
                    .append(x.run(i, what)).append(' ').append(x.runs(0, 9, what)).append(' ')
                    .append(x.comes(0, what, i, true)).append(' ').append(x.comes(0, what, i, false)).append(' ');
                for (int v = 0; v < 6; v++) {
                    all.append(x.at(i, v, what)).append(' ').append(x.truly(i, v, what)).append(' ');
                }
            }
            all.append(x.fault(i)).append(' ').append(x.variable(i)).append(' ').append(x.without(i)).append(' ')
                .append(x.mend()).append(' ').append(x.path(i)).append(' ').append(x.left(i)).append(' ')
                .append(x.never(i)).append(' ').append(x.alike(0, 0, i)).append(' ').append(x.towards(0, i))
                .append('\n');
        }
        return all.toString();
    }

    static void sameAnswers(String what, Supplier<HoldChecker> made, Supplier<HoldChecker> other) {
        due(what + ": all answers alike", allAnswers(made).equals(allAnswers(other)) ? 1 : 0, 1);
    }

    /** Says how many answers were asked for, and ends the test. */
    static void finish(String name) {
        String of = sentences == 0 ? "" : sentences + " sentences, ";
        System.out.println(name + ": " + of + asked + " answers, " + wrong + " wrong");
        System.exit(wrong == 0 ? 0 : 1);
    }
}
