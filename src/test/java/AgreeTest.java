import java.util.Random;

/**
 * What the calls say of one another, of texts made by chance: what truly is, CHECK must tell as what may
 * be; a RUN is one of the PATHS; ways to an end go by METHODS that come to it. No second checker is asked.
 */
public final class AgreeTest extends Asking {
    private static final int MOST_CALLS = 512;
    /** What a text takes to be loaded anew, and a question with its STATUS. */
    private static final int CALLS_KEPT = 60;
    private static final int RUNS = 12;

    private final String text;
    private HoldChecker checker;
    private int calls = MOST_CALLS;
    private final int kinds;
    private final int variables;
    private final int statements;

    private AgreeTest(String text) {
        this.text = text;
        about(text);
        kinds = x().many(0);
        variables = x().many(1);
        statements = x().many(2);
    }

    /** The object to be asked next, at most twice: another one ahead of the old one has been asked too often. */
    private HoldChecker x() {
        calls += 2;
        if (calls > MOST_CALLS - CALLS_KEPT) {
            checker = loaded(text);
            calls = CALLS_KEPT;
        }
        return checker;
    }

    private static void holds(String what, boolean it) {
        due(what, it ? 1 : 0, 1);
    }

    private static boolean within(int part, int whole) {
        return (part & ~whole) == 0;
    }

    private static boolean has(int bits, int number) {
        return (bits >> number & 1) != 0;
    }

    /** The STATUS of the call that was asked latest. */
    private int status() {
        return checker.status();
    }

    // ---- kinds

    private void kindsAgree() {
        for (int k = 0; k < kinds; k++) {
            int states = x().kind(k, 0);
            int methods = x().kind(k, 1);
            waysAgree(k, states, methods);
            likesAgree(k, states, methods);
            int first = 0;
            for (int m = 0; m < methods; m++) {
                boolean isTest = x().method(k, m, 0) == 1;
                first += has(x().method(k, m, 1), 0) ? (isTest ? 2 : 1) : 0;
            }
            due("rows of none", x().rows(k, 0, false), 1);
            due("rows of one", x().rows(k, 1, false), first);
            holds("rows to an end are some of all", x().rows(k, 3, true) <= x().rows(k, 3, false));
        }
    }

    private void waysAgree(int k, int states, int methods) {
        int ends = x().kind(k, 2);
        int comes = x().kind(k, 4);
        int stuck = x().kind(k, 5);
        holds("the first one comes", has(comes, 0));
        holds("stuck ones come", within(stuck, comes));
        for (int s = 0; s < states; s++) {
            int far = x().toEnd(k, s);
            due("an end is no way off, " + s, far == 0 ? 1 : 0, has(ends, s) ? 1 : 0);
            due("stuck, " + s, has(stuck, s) ? 1 : 0, has(comes, s) && far == NONE ? 1 : 0);
            int least = NONE;
            for (int m = methods - 1; m >= 0; m--) {
                for (int no = 0; no < 2; no++) {
                    int to = x().comes(k, m, s, no == 0);
                    due("can be there, " + m + " " + s, to == NONE ? 0 : 1, has(x().method(k, m, 1), s) ? 1 : 0);
                    if (to == NONE) {
                        continue;
                    }
                    holds("what comes of one that comes, comes", !has(comes, s) || has(comes, to));
                    int then = x().toEnd(k, to);
                    holds("no shorter way, " + s, then == NONE || far != NONE && far <= then + 1);
                    least = then != NONE && then + 1 == far ? m : least;
                }
            }
            due("the first method towards an end, " + s, x().towards(k, s), far > 0 ? least : NONE);
        }
    }

    private void likesAgree(int k, int states, int methods) {
        for (int s = 0; s < states; s++) {
            for (int o = 0; o < states; o++) {
                int like = x().alike(k, s, o);
                due("alike the other way round", x().alike(k, o, s), like);
                if (s == o || like == 0) {
                    due("alike itself", like, s == o ? 1 : 0);
                    continue;
                }
                due("alike, so as far off", x().toEnd(k, s), x().toEnd(k, o));
                for (int m = 0; m < methods; m++) {
                    int to = x().comes(k, m, s, false);
                    int other = x().comes(k, m, o, false);
                    boolean both = to != NONE && other != NONE && x().alike(k, to, other) == 1;
                    holds("alike, so what comes is alike", both || to == NONE && other == NONE);
                }
            }
        }
    }

    // ---- CHECK and PATHS

    private boolean isMore() {
        return x().paths(0) == NONE && status() == 6;
    }

    private void checkAgrees() {
        int wrong = 0;
        int coming = 0;
        int first = NONE;
        for (int place = 0; place <= statements && variables > 0; place++) {
            int reason = x().at(place, 0, 4);
            coming += reason == NONE ? 0 : 1;
            if (reason > 0) {
                wrong++;
                first = first == NONE ? place : first;
            }
        }
        if (variables > 0) {
            due("wrong places", x().check(3), wrong);
            due("places that can come", x().check(4), coming);
            due("the first wrong one", x().check(1), first);
            due("accepted", x().check(0), wrong == 0 ? 1 : 0);
        }
        int mended = NONE;
        for (int i = statements - 1; i >= 0 && x().check(0) == 0; i--) {
            mended = x().without(i) == 1 ? i : mended;
        }
        due("mend is the first without", x().mend(), mended);
    }

    /** What truly is, is among what may be; what must be, truly is. */
    private void trulyAgrees() {
        int never = 0;
        for (int place = 0; place <= statements && variables > 0; place++) {
            if (x().truly(place, 0, 0) == NONE) {
                due("none is there", status(), 5);
                if (place < statements) {
                    due("so no path comes to it", x().never(never), place);
                    never++;
                }
                continue;
            }
            for (int v = 0; v < variables; v++) {
                for (int what = 0; what < 3; what++) {
                    int truly = x().truly(place, v, what);
                    int may = x().at(place, v, what);
                    holds("at " + place + " " + v + " " + what, may != NONE && within(truly, may));
                }
                holds("must at " + place + " " + v, within(x().at(place, v, 3), x().truly(place, v, 3)));
            }
        }
        if (variables > 0) {
            due("how many no path comes to", x().never(NONE), never);
        }
    }

    private void pathAgrees() {
        boolean wrong = x().paths(1) > 0;
        boolean refused = x().check(0) == 0;
        holds("what goes wrong is refused", refused || !wrong);
        due("an alarm", x().paths(4), refused && !wrong ? 1 : 0);
        for (int k = 0; k < kinds && !wrong; k++) {
            holds("all are left in an end", within(x().left(k), x().kind(k, 2)));
        }
        if (!wrong) {
            return;
        }
        int length = x().paths(2);
        int place = x().path(0);
        due("from the beginning", place, 0);
        for (int i = 1; i < length; i++) {
            int next = x().path(i);
            holds("one behind the other, " + i,
                next == x().statement(place, 4) || next == x().statement(place, 5));
            place = next;
        }
        x().path(length);
        due("no more of it", status(), 5);
        int reason = x().paths(3);
        int seen = variables > 0 ? x().at(place, 0, 4) : reason;
        holds("CHECK sees that, or what comes first there", seen > 0 && seen <= reason);
    }

    private void runsAgree(int seed) {
        int[] ways = new int[7];
        boolean more = isMore();
        for (int i = 0; i < RUNS; i++) {
            int steps = x().run(seed + i, 0);
            int how = x().run(seed + i, 1);
            int place = x().run(seed + i, 2);
            ways[how]++;
            holds("it stands at the end, or in between", how == 0 ? place == statements : how == 5 || place < statements);
            holds("too long", how == 6 ? steps == 300 : steps <= 300);
            if (more || variables == 0) {
                continue;
            }
            holds("a path comes there", x().truly(place, 0, 0) != NONE);
            if (how == 0) {
                holds("so a path comes to the end", x().paths(6) > 0);
            } else if (how < 6) {
                int gone = place == statements ? steps + 1 : steps;
                holds("a path goes wrong, no later", x().paths(2) != NONE && x().paths(2) <= gone);
                int seen = x().at(place, 0, 4);
                holds("CHECK sees it", seen > 0 && seen <= how);
            }
        }
        for (int how = 0; how < 7; how++) {
            due("runs that go as " + how, x().runs(seed, RUNS, how), ways[how]);
        }
    }

    public static void main(String[] args) {
        int rounds = args.length > 0 ? Integer.parseInt(args[0]) : 4;
        long from = args.length > 1 ? Long.parseLong(args[1]) : 0;
        for (long seed = from; seed < from + 300L * rounds; seed++) {
            Random random = new Random(seed);
            AgreeTest test = new AgreeTest(new Texts(random).good());
            test.kindsAgree();
            test.checkAgrees();
            if (!test.isMore()) {
                test.trulyAgrees();
                test.pathAgrees();
            }
            test.runsAgree(random.nextInt(65536 - RUNS));
        }
        finish("calls that agree");
    }
}
