import java.util.Arrays;

/**
 * Checks what things may be asked in which state: KINDS with STATES and METHODS, and programs whose
 * VARIABLES hold things whole, shared or to be looked at. The words in capitals are those of DOC.md.
 */
public final class HoldChecker {
    /** None. */
    public static final int NONE = -1;

    private static final int MOST_BYTES = 900;
    private static final int MOST_LETTERS = 8;
    private static final int MOST_KINDS = 4;
    private static final int MOST_STATES = 6;
    private static final int MOST_METHODS = 6;
    private static final int MOST_VARIABLES = 6;
    private static final int MOST_STATEMENTS = 40;
    private static final int MOST_NESTED = 5;
    private static final int MOST_PLACES = MOST_STATEMENTS + 1;
    private static final int MOST_CONFIGURATIONS = 1000;
    private static final int MOST_STEPS = 300;
    private static final int MOST_ROWS = 12;
    private static final int MOST_RUNS = 50;
    private static final int MOST_SEED = 65536;
    private static final long ROWS_MODULUS = 1000000007L;

    private static final int BAD_NUMBER = 1;
    private static final int NO_SUCH = 2;
    private static final int SO_ALREADY = 4;
    private static final int THERE_IS_NONE = 5;
    private static final int MORE = 6;
    private static final int FAULTY = 9;

    private static final int CALL = 0;
    private static final int TEST = 1;
    private static final int LOOK = 2;

    private static final int NEW = 0;
    private static final int MOVE = 1;
    private static final int SHARE = 2;
    private static final int LEND = 3;
    private static final int JOIN = 4;
    private static final int DROP = 5;
    private static final int DO = 6;
    private static final int IF = 7;
    private static final int WHILE = 8;
    private static final int MAYBE = 9;
    private static final int LOOP = 10;

    private static final int HELD_NOT = 1;
    private static final int TO_LOOK = 2;
    private static final int SHARED = 4;
    private static final int WHOLE = 8;

    private static final int WRONG_HELD_OR_NONE = 1;
    private static final int WRONG_OTHER_THING = 2;
    private static final int WRONG_HOW = 3;
    private static final int WRONG_STATE = 4;
    private static final int WRONG_LEFT = 5;
    private static final int TOO_LONG = 6;

    private final Parser parser = new Parser();
    private final Flow flow = new Flow();
    private final Flow trial = new Flow();
    private final Search search = new Search();
    private final Runner runner = new Runner();
    private final int[] acceptedWithout = new int[MOST_STATEMENTS];
    private Program program = new Program();
    private boolean flowKnown;
    private boolean searchKnown;
    private int status;
    private int faultSort = NONE;
    private int faultPlace = NONE;

    public HoldChecker() {
        Arrays.fill(acceptedWithout, NONE);
    }

    public int status() {
        return status;
    }

    public int feed(int a, int b, int c, int d, int e) {
        Tape tape = parser.tape;
        if (tape.bytes > MOST_BYTES - 20) {
            return NONE;
        }
        tape.putInt(a);
        tape.putInt(b);
        tape.putInt(c);
        tape.putInt(d);
        tape.putInt(e);
        return tape.bytes;
    }

    public int load(int n) {
        if (n < 0 || n > parser.tape.bytes) {
            return refuse(BAD_NUMBER);
        }
        boolean fine = parser.parse(n);
        faultSort = parser.faultSort;
        faultPlace = parser.faultPlace;
        if (!fine) {
            return refuse(FAULTY);
        }
        program = parser.handOver(program);
        forgetAnswers();
        return answer(program.statements);
    }

    public int fault(int what) {
        if (what == 0) {
            return faultSort;
        }
        return what == 1 ? faultPlace : NONE;
    }

    public int many(int what) {
        switch (what) {
            case 0:
                return answer(program.kinds.count);
            case 1:
                return answer(program.variables);
            case 2:
                return answer(program.statements);
            default:
                return refuse(BAD_NUMBER);
        }
    }

    public int kind(int k, int what) {
        if (what < 0 || what > 5) {
            return refuse(BAD_NUMBER);
        }
        Kinds kinds = program.kinds;
        if (!kinds.hasKind(k)) {
            return refuse(NO_SUCH);
        }
        switch (what) {
            case 0:
                return answer(kinds.states[k]);
            case 1:
                return answer(kinds.methods[k]);
            case 2:
                return answer(kinds.ends[k]);
            case 3:
                return answer(program.variablesOf(k));
            case 4:
                return answer(kinds.reachable(k));
            default:
                return answer(kinds.reachable(k) & kinds.hopeless(k));
        }
    }

    public int method(int k, int m, int what) {
        if (what < 0 || what > 1) {
            return refuse(BAD_NUMBER);
        }
        Kinds kinds = program.kinds;
        if (!kinds.hasMethod(k, m)) {
            return refuse(NO_SUCH);
        }
        return answer(what == 0 ? kinds.sortOf(k, m) : kinds.statesOf(k, m));
    }

    public int comes(int k, int m, int state, boolean yes) {
        Kinds kinds = program.kinds;
        if (!kinds.hasMethod(k, m) || !kinds.hasState(k, state)) {
            return refuse(NO_SUCH);
        }
        int to = kinds.following(k, m, state, yes);
        return to == NONE ? refuse(THERE_IS_NONE) : answer(to);
    }

    public int tell(int k, int m, int state, boolean yes, int to) {
        if (to < NONE) {
            return refuse(BAD_NUMBER);
        }
        Kinds kinds = program.kinds;
        if (!kinds.hasMethod(k, m) || !kinds.hasState(k, state)) {
            return refuse(NO_SUCH);
        }
        if (to != NONE && !kinds.hasState(k, to)) {
            return refuse(NO_SUCH);
        }
        int before = kinds.following(k, m, state, yes);
        if (before == to) {
            return refuse(SO_ALREADY);
        }
        if (kinds.sortOf(k, m) == LOOK && to != NONE && to != state) {
            return refuse(THERE_IS_NONE);
        }
        kinds.change(k, m, state, yes, to);
        forgetAnswers();
        return answer(before);
    }

    public int toEnd(int k, int state) {
        Kinds kinds = program.kinds;
        if (!kinds.hasState(k, state)) {
            return refuse(NO_SUCH);
        }
        int steps = kinds.stepsToEnd(k, state);
        return steps == NONE ? refuse(THERE_IS_NONE) : answer(steps);
    }

    public int towards(int k, int state) {
        Kinds kinds = program.kinds;
        if (!kinds.hasState(k, state)) {
            return refuse(NO_SUCH);
        }
        int steps = kinds.stepsToEnd(k, state);
        if (steps == NONE || steps == 0) {
            return refuse(THERE_IS_NONE);
        }
        return answer(kinds.methodTo(k, state, steps - 1));
    }

    public int alike(int k, int state, int other) {
        Kinds kinds = program.kinds;
        if (!kinds.hasState(k, state) || !kinds.hasState(k, other)) {
            return refuse(NO_SUCH);
        }
        return answer(kinds.areAlike(k, state, other) ? 1 : 0);
    }

    public int rows(int k, int n, boolean end) {
        if (n < 0 || n > MOST_ROWS) {
            return refuse(BAD_NUMBER);
        }
        Kinds kinds = program.kinds;
        if (!kinds.hasKind(k)) {
            return refuse(NO_SUCH);
        }
        return answer(kinds.countRows(k, n, end));
    }

    public int statement(int i, int what) {
        if (what < 0 || what > 6) {
            return refuse(BAD_NUMBER);
        }
        if (!program.hasStatement(i)) {
            return refuse(NO_SUCH);
        }
        switch (what) {
            case 0:
                return answer(program.sort[i]);
            case 1:
                return answer(program.first[i]);
            case 2:
                return answer(program.second[i]);
            case 3:
                return answer(program.asked[i]);
            case 4:
                return answer(program.byYes[i]);
            case 5:
                return answer(program.byNo[i]);
            default:
                return answer(program.depth[i]);
        }
    }

    public int variable(int v) {
        return program.hasVariable(v) ? answer(program.kindOf[v]) : refuse(NO_SUCH);
    }

    public int check(int what) {
        if (what < 0 || what > 4) {
            return refuse(BAD_NUMBER);
        }
        Flow solved = solvedFlow();
        boolean accepted = solved.wrongPlaces == 0;
        switch (what) {
            case 0:
                return answer(accepted ? 1 : 0);
            case 1:
                return accepted ? refuse(THERE_IS_NONE) : answer(solved.firstWrong);
            case 2:
                return accepted ? refuse(THERE_IS_NONE) : answer(solved.firstReason());
            case 3:
                return answer(solved.wrongPlaces);
            default:
                return answer(solved.comingPlaces);
        }
    }

    public int at(int place, int v, int what) {
        if (what < 0 || what > 4) {
            return refuse(BAD_NUMBER);
        }
        if (!program.hasPlace(place) || !program.hasVariable(v)) {
            return refuse(NO_SUCH);
        }
        Flow solved = solvedFlow();
        if (!solved.canCome[place]) {
            return refuse(THERE_IS_NONE);
        }
        if (what == 4) {
            return answer(solved.reasons[place]);
        }
        return answer(solved.holds[place].part(what, v));
    }

    public int without(int i) {
        return program.hasStatement(i) ? answer(triedWithout(i)) : refuse(NO_SUCH);
    }

    public int mend() {
        if (solvedFlow().wrongPlaces == 0) {
            return refuse(THERE_IS_NONE);
        }
        for (int i = 0; i < program.statements; i++) {
            if (triedWithout(i) == 1) {
                return answer(i);
            }
        }
        return refuse(THERE_IS_NONE);
    }

    public int paths(int what) {
        if (what < 0 || what > 6) {
            return refuse(BAD_NUMBER);
        }
        Search found = finishedSearch();
        if (found.more) {
            return refuse(MORE);
        }
        boolean wrong = found.wrongs > 0;
        switch (what) {
            case 0:
                return answer(found.count);
            case 1:
                return answer(found.wrongs);
            case 2:
                return wrong ? answer(found.wrongLength) : refuse(THERE_IS_NONE);
            case 3:
                return wrong ? answer(found.wrongReason) : refuse(THERE_IS_NONE);
            case 4:
                return answer(!wrong && solvedFlow().wrongPlaces > 0 ? 1 : 0);
            case 5:
                return answer(found.mostThings);
            default:
                return answer(found.goodEndings);
        }
    }

    public int path(int i) {
        if (i < 0) {
            return refuse(BAD_NUMBER);
        }
        Search found = finishedSearch();
        if (found.more) {
            return refuse(MORE);
        }
        if (found.wrongs == 0 || i >= found.wrongLength) {
            return refuse(THERE_IS_NONE);
        }
        return answer(found.placeOnWrongPath(i));
    }

    public int truly(int place, int v, int what) {
        if (what < 0 || what > 3) {
            return refuse(BAD_NUMBER);
        }
        if (!program.hasPlace(place) || !program.hasVariable(v)) {
            return refuse(NO_SUCH);
        }
        Search found = finishedSearch();
        if (found.more) {
            return refuse(MORE);
        }
        if (!found.reached[place]) {
            return refuse(THERE_IS_NONE);
        }
        return answer(found.gather(place, v, what));
    }

    public int left(int k) {
        if (!program.kinds.hasKind(k)) {
            return refuse(NO_SUCH);
        }
        Search found = finishedSearch();
        return found.more ? refuse(MORE) : answer(found.leftStates[k]);
    }

    public int never(int i) {
        if (i < NONE) {
            return refuse(BAD_NUMBER);
        }
        Search found = finishedSearch();
        if (found.more) {
            return refuse(MORE);
        }
        int seen = 0;
        for (int s = 0; s < program.statements; s++) {
            if (!found.reached[s]) {
                if (seen == i) {
                    return answer(s);
                }
                seen++;
            }
        }
        return i == NONE ? answer(seen) : refuse(THERE_IS_NONE);
    }

    public int run(int seed, int what) {
        if (seed < 0 || seed > MOST_SEED || what < 0 || what > 3) {
            return refuse(BAD_NUMBER);
        }
        runner.go(program, seed);
        switch (what) {
            case 0:
                return answer(runner.steps);
            case 1:
                return answer(runner.ending);
            case 2:
                return answer(runner.place);
            default:
                return answer(runner.made);
        }
    }

    public int runs(int seed, int n, int how) {
        if (seed < 0 || n < 1 || n > MOST_RUNS || seed > MOST_SEED + 1 - n || how < 0 || how > TOO_LONG) {
            return refuse(BAD_NUMBER);
        }
        int count = 0;
        for (int i = 0; i < n; i++) {
            runner.go(program, seed + i);
            if (runner.ending == how) {
                count++;
            }
        }
        return answer(count);
    }

    private int answer(int value) {
        status = 0;
        return value;
    }

    private int refuse(int reason) {
        status = reason;
        return NONE;
    }

    private void forgetAnswers() {
        flowKnown = false;
        searchKnown = false;
        Arrays.fill(acceptedWithout, NONE);
    }

    private Flow solvedFlow() {
        if (!flowKnown) {
            flow.solve(program, NONE);
            flowKnown = true;
        }
        return flow;
    }

    private int triedWithout(int i) {
        if (acceptedWithout[i] == NONE) {
            trial.solve(program, i);
            acceptedWithout[i] = trial.wrongPlaces == 0 ? 1 : 0;
        }
        return acceptedWithout[i];
    }

    private Search finishedSearch() {
        if (!searchKnown) {
            search.explore(program);
            searchKnown = true;
        }
        return search;
    }

    /** The KINDS of a program: their STATES, ends and METHODS. */
    private static final class Kinds {
        int count;
        final int[] states = new int[MOST_KINDS];
        final int[] ends = new int[MOST_KINDS];
        final int[] methods = new int[MOST_KINDS];
        private final int[] sorts = new int[MOST_KINDS * MOST_METHODS];
        private final int[] can = new int[MOST_KINDS * MOST_METHODS];
        private final int[] byYes = new int[MOST_KINDS * MOST_METHODS * MOST_STATES];
        private final int[] byNo = new int[MOST_KINDS * MOST_METHODS * MOST_STATES];
        private final int[] steps = new int[MOST_STATES];
        private final int[] likes = new int[MOST_STATES];
        private final long[] ways = new long[MOST_STATES];
        private final long[] longerWays = new long[MOST_STATES];

        boolean hasKind(int k) {
            return k >= 0 && k < count;
        }

        boolean hasState(int k, int state) {
            return hasKind(k) && state >= 0 && state < states[k];
        }

        boolean hasMethod(int k, int m) {
            return hasKind(k) && m >= 0 && m < methods[k];
        }

        /** Needs room for one KIND more. */
        int addKind() {
            int k = count;
            states[k] = 0;
            ends[k] = 0;
            methods[k] = 0;
            count++;
            return k;
        }

        /** Needs room for one METHOD more. */
        int addMethod(int k, int sort) {
            int m = methods[k];
            sorts[k * MOST_METHODS + m] = sort;
            can[k * MOST_METHODS + m] = 0;
            methods[k]++;
            return m;
        }

        int sortOf(int k, int m) {
            return sorts[k * MOST_METHODS + m];
        }

        int statesOf(int k, int m) {
            return can[k * MOST_METHODS + m];
        }

        boolean canBe(int k, int m, int state) {
            return (can[k * MOST_METHODS + m] >> state & 1) != 0;
        }

        int following(int k, int m, int state, boolean yes) {
            if (!canBe(k, m, state)) {
                return NONE;
            }
            int row = (k * MOST_METHODS + m) * MOST_STATES + state;
            return yes ? byYes[row] : byNo[row];
        }

        void allow(int k, int m, int state, int ifYes, int ifNo) {
            int row = (k * MOST_METHODS + m) * MOST_STATES + state;
            can[k * MOST_METHODS + m] |= 1 << state;
            byYes[row] = ifYes;
            byNo[row] = ifNo;
        }

        void change(int k, int m, int state, boolean yes, int to) {
            if (to == NONE) {
                can[k * MOST_METHODS + m] &= ~(1 << state);
                return;
            }
            boolean both = sortOf(k, m) != TEST || !canBe(k, m, state);
            int ifYes = both || yes ? to : following(k, m, state, true);
            int ifNo = both || !yes ? to : following(k, m, state, false);
            allow(k, m, state, ifYes, ifNo);
        }

        /** What comes of those of some STATES in which the METHOD can be. */
        int image(int k, int m, int from, boolean yes) {
            int method = k * MOST_METHODS + m;
            int fitting = from & can[method];
            int came = 0;
            for (int s = 0; s < states[k]; s++) {
                if ((fitting >> s & 1) != 0) {
                    int row = method * MOST_STATES + s;
                    came |= 1 << (yes ? byYes[row] : byNo[row]);
                }
            }
            return came;
        }

        int reachable(int k) {
            int reached = 1;
            for (int round = 0; round < MOST_STATES; round++) {
                for (int m = 0; m < methods[k]; m++) {
                    reached |= image(k, m, reached, true) | image(k, m, reached, false);
                }
            }
            return reached;
        }

        int hopeless(int k) {
            measureSteps(k);
            int found = 0;
            for (int s = 0; s < states[k]; s++) {
                if (steps[s] == NONE) {
                    found |= 1 << s;
                }
            }
            return found;
        }

        int stepsToEnd(int k, int state) {
            measureSteps(k);
            return steps[state];
        }

        private void measureSteps(int k) {
            for (int s = 0; s < states[k]; s++) {
                steps[s] = (ends[k] >> s & 1) != 0 ? 0 : NONE;
            }
            for (int length = 1; length < states[k]; length++) {
                for (int s = 0; s < states[k]; s++) {
                    if (steps[s] == NONE && methodTo(k, s, length - 1) != NONE) {
                        steps[s] = length;
                    }
                }
            }
        }

        /** The first METHOD that leads to a STATE that many steps from an end, as measured. */
        int methodTo(int k, int state, int length) {
            for (int m = 0; m < methods[k]; m++) {
                if (canBe(k, m, state)
                        && (steps[following(k, m, state, true)] == length
                        || steps[following(k, m, state, false)] == length)) {
                    return m;
                }
            }
            return NONE;
        }

        boolean areAlike(int k, int state, int other) {
            for (int s = 0; s < states[k]; s++) {
                likes[s] = (1 << states[k]) - 1;
            }
            boolean parted = true;
            for (int round = 0; parted && round <= MOST_STATES * MOST_STATES; round++) {
                parted = partUnlike(k);
            }
            return (likes[state] >> other & 1) != 0;
        }

        private boolean partUnlike(int k) {
            boolean parted = false;
            for (int s = 0; s < states[k]; s++) {
                for (int o = 0; o < states[k]; o++) {
                    if ((likes[s] >> o & 1) != 0 && differ(k, s, o)) {
                        likes[s] &= ~(1 << o);
                        parted = true;
                    }
                }
            }
            return parted;
        }

        private boolean differ(int k, int s, int o) {
            if ((ends[k] >> s & 1) != (ends[k] >> o & 1)) {
                return true;
            }
            for (int m = 0; m < methods[k]; m++) {
                if (canBe(k, m, s) != canBe(k, m, o)) {
                    return true;
                }
                if (canBe(k, m, s) && (comeUnlike(k, m, s, o, true) || comeUnlike(k, m, s, o, false))) {
                    return true;
                }
            }
            return false;
        }

        private boolean comeUnlike(int k, int m, int s, int o, boolean yes) {
            return (likes[following(k, m, s, yes)] >> following(k, m, o, yes) & 1) == 0;
        }

        int countRows(int k, int n, boolean end) {
            Arrays.fill(ways, 0);
            ways[0] = 1;
            for (int length = 0; length < n; length++) {
                lengthenWays(k);
            }
            long sum = 0;
            for (int s = 0; s < states[k]; s++) {
                if (!end || (ends[k] >> s & 1) != 0) {
                    sum += ways[s];
                }
            }
            return (int) (sum % ROWS_MODULUS);
        }

        private void lengthenWays(int k) {
            Arrays.fill(longerWays, 0);
            for (int m = 0; m < methods[k]; m++) {
                for (int s = 0; s < states[k]; s++) {
                    if (canBe(k, m, s)) {
                        longerWays[following(k, m, s, true)] += ways[s];
                        if (sortOf(k, m) == TEST) {
                            longerWays[following(k, m, s, false)] += ways[s];
                        }
                    }
                }
            }
            for (int s = 0; s < MOST_STATES; s++) {
                ways[s] = longerWays[s] % ROWS_MODULUS;
            }
        }
    }

    /** A program: its KINDS, VARIABLES and STATEMENTS, and which PLACE comes behind which. */
    private static final class Program {
        final Kinds kinds = new Kinds();
        int variables;
        final int[] kindOf = new int[MOST_VARIABLES];
        int statements;
        final int[] sort = new int[MOST_STATEMENTS];
        final int[] first = new int[MOST_STATEMENTS];
        final int[] second = new int[MOST_STATEMENTS];
        final int[] asked = new int[MOST_STATEMENTS];
        final int[] depth = new int[MOST_STATEMENTS];
        final int[] parent = new int[MOST_STATEMENTS];
        /** The number of the first STATEMENT behind the first BLOCK, and behind the whole one. */
        final int[] split = new int[MOST_STATEMENTS];
        final int[] close = new int[MOST_STATEMENTS];
        final int[] after = new int[MOST_STATEMENTS];
        final int[] byYes = new int[MOST_STATEMENTS];
        final int[] byNo = new int[MOST_STATEMENTS];

        void empty() {
            kinds.count = 0;
            variables = 0;
            statements = 0;
        }

        boolean hasVariable(int v) {
            return v >= 0 && v < variables;
        }

        boolean hasStatement(int i) {
            return i >= 0 && i < statements;
        }

        boolean hasPlace(int place) {
            return place >= 0 && place <= statements;
        }

        int variablesOf(int k) {
            int count = 0;
            for (int v = 0; v < variables; v++) {
                if (kindOf[v] == k) {
                    count++;
                }
            }
            return count;
        }

        /** Needs room for one STATEMENT more. */
        int addStatement(int itsSort, int itsParent, int itsDepth) {
            int i = statements;
            sort[i] = itsSort;
            first[i] = NONE;
            second[i] = NONE;
            asked[i] = NONE;
            depth[i] = itsDepth;
            parent[i] = itsParent;
            split[i] = i + 1;
            close[i] = i + 1;
            statements++;
            return i;
        }

        /** Others come ahead of those within them, so one way along the numbers is enough. */
        void link() {
            for (int i = 0; i < statements; i++) {
                after[i] = placeAfter(i);
                byYes[i] = after[i];
                byNo[i] = NONE;
                if (sort[i] >= IF) {
                    linkBlocks(i);
                }
            }
        }

        private void linkBlocks(int i) {
            int behindBlock = goesRound(i) ? i : after[i];
            byYes[i] = split[i] > i + 1 ? i + 1 : behindBlock;
            byNo[i] = close[i] > split[i] ? split[i] : after[i];
        }

        private int placeAfter(int i) {
            int outer = parent[i];
            if (outer == NONE) {
                return close[i];
            }
            int blockEnd = i < split[outer] ? split[outer] : close[outer];
            if (close[i] < blockEnd) {
                return close[i];
            }
            return goesRound(outer) ? outer : after[outer];
        }

        private boolean goesRound(int i) {
            return sort[i] == WHILE || sort[i] == LOOP;
        }
    }

    /** The bytes that were fed, and the TOKENS among the first of them. */
    private static final class Tape {
        static final String RESERVED =
                "kind end call test look var else new move share lend join drop do if while maybe loop ";
        static final int RESERVED_WORDS = 18;
        static final int WORD_KIND = 0;
        static final int WORD_END = 1;
        static final int WORD_CALL = 2;
        static final int WORD_TEST = 3;
        static final int WORD_LOOK = 4;
        static final int WORD_VAR = 5;
        static final int WORD_ELSE = 6;
        static final int WORD_NEW = 7;
        static final int WORD_LOOP = 17;
        static final int NAME = 18;
        static final int SEMICOLON = 19;
        static final int OPEN = 20;
        static final int CLOSE = 21;
        static final int END = 22;
        static final int NO_TOKEN = 23;

        int bytes;
        int start;
        int token;
        long word;
        private int textLength;
        private int next;
        private final byte[] tape = new byte[MOST_BYTES];
        private final long[] reserved = new long[RESERVED_WORDS];

        Tape() {
            int count = 0;
            long letters = 0;
            for (int i = 0; i < RESERVED.length(); i++) {
                char sign = RESERVED.charAt(i);
                if (sign != ' ') {
                    letters = letters * 32 + (sign - 'a' + 1);
                } else if (count < RESERVED_WORDS) {
                    reserved[count] = letters;
                    count++;
                    letters = 0;
                }
            }
        }

        void putInt(int four) {
            putByte(four >> 24);
            putByte(four >> 16);
            putByte(four >> 8);
            putByte(four);
        }

        private void putByte(int value) {
            if (bytes < MOST_BYTES) {
                tape[bytes] = (byte) value;
                bytes++;
            }
        }

        /** The first n bytes are read from now on; the tape takes new ones from its beginning. */
        void open(int n) {
            textLength = n;
            next = 0;
            bytes = 0;
            advance();
        }

        void advance() {
            while (next < textLength && (tape[next] == ' ' || tape[next] == '\n')) {
                next++;
            }
            start = next;
            if (next >= textLength) {
                token = END;
                return;
            }
            takeWord();
            if (next == start) {
                token = signSort(tape[next]);
                next++;
            }
        }

        /** Takes nothing where no letter stands. */
        private void takeWord() {
            word = 0;
            while (next < textLength && tape[next] >= 'a' && tape[next] <= 'z') {
                if (next - start < MOST_LETTERS) {
                    word = word * 32 + (tape[next] - 'a' + 1);
                }
                next++;
            }
            token = next - start > MOST_LETTERS ? NO_TOKEN : NAME;
            for (int i = 0; i < RESERVED_WORDS && token == NAME; i++) {
                if (reserved[i] == word) {
                    token = i;
                }
            }
        }

        private static int signSort(int sign) {
            switch (sign) {
                case ';':
                    return SEMICOLON;
                case '{':
                    return OPEN;
                case '}':
                    return CLOSE;
                default:
                    return NO_TOKEN;
            }
        }
    }

    /**
     * Reads a TEXT into a draft of a program. Each TOKEN is judged wholly before the next one is
     * looked at, so the first FAULT met is the first along the text.
     */
    private static final class Parser {
        static final int FAULT_NO_TOKEN = 1;
        static final int FAULT_CANT_STAND = 2;
        static final int FAULT_NO_SUCH = 3;
        static final int FAULT_TOLD_ALREADY = 4;
        static final int FAULT_OTHER_SORT = 5;
        static final int FAULT_TOO_MANY = 6;

        final Tape tape = new Tape();
        int faultSort;
        int faultPlace;
        private Program draft = new Program();
        private final long[] kindNames = new long[MOST_KINDS];
        private final long[] stateNames = new long[MOST_KINDS * MOST_STATES];
        private final long[] methodNames = new long[MOST_KINDS * MOST_METHODS];
        private final long[] variableNames = new long[MOST_VARIABLES];
        private final int[] openOnes = new int[MOST_NESTED];
        private final boolean[] inElse = new boolean[MOST_NESTED];
        private int open;

        /** Gives the program that was read, and takes an old one to write the next into. */
        Program handOver(Program old) {
            Program read = draft;
            draft = old;
            return read;
        }

        boolean parse(int n) {
            faultSort = 0;
            faultPlace = NONE;
            open = 0;
            draft.empty();
            tape.open(n);
            boolean fine = true;
            // A piece takes at least one byte, so there are no more pieces than bytes.
            for (int piece = 0; piece <= MOST_BYTES && fine && !atTheEnd(); piece++) {
                fine = readPiece();
            }
            if (fine) {
                draft.link();
            }
            return fine;
        }

        private boolean atTheEnd() {
            return tape.token == Tape.END && open == 0;
        }

        private boolean readPiece() {
            int token = tape.token;
            if (token >= Tape.WORD_NEW && token <= Tape.WORD_LOOP) {
                return readStatement(token - Tape.WORD_NEW);
            }
            if (token == Tape.CLOSE && open > 0) {
                return closeBlock();
            }
            if (draft.statements > 0) {
                return fail(FAULT_CANT_STAND);
            }
            switch (token) {
                case Tape.WORD_KIND:
                    return readKind();
                case Tape.WORD_END:
                    return readEnd();
                case Tape.WORD_CALL:
                    return readMethod(CALL);
                case Tape.WORD_TEST:
                    return readMethod(TEST);
                case Tape.WORD_LOOK:
                    return readMethod(LOOK);
                case Tape.WORD_VAR:
                    return readVariable();
                default:
                    return fail(FAULT_CANT_STAND);
            }
        }

        private boolean readKind() {
            Kinds kinds = draft.kinds;
            if (kinds.count >= MOST_KINDS) {
                return fail(FAULT_TOO_MANY);
            }
            tape.advance();
            if (!isNewName(kindNames, 0, kinds.count)) {
                return false;
            }
            int k = kinds.addKind();
            kindNames[k] = tape.word;
            tape.advance();
            for (int s = 0; s <= MOST_STATES && (s == 0 || tape.token != Tape.SEMICOLON); s++) {
                if (!isNewName(stateNames, k * MOST_STATES, s)) {
                    return false;
                }
                if (s >= MOST_STATES) {
                    return fail(FAULT_TOO_MANY);
                }
                stateNames[k * MOST_STATES + s] = tape.word;
                kinds.states[k] = s + 1;
                tape.advance();
            }
            return takeSign(Tape.SEMICOLON);
        }

        private boolean readEnd() {
            tape.advance();
            int k = known(kindNames, 0, draft.kinds.count);
            if (k == NONE) {
                return false;
            }
            tape.advance();
            for (int told = 0; told <= MOST_BYTES && (told == 0 || tape.token != Tape.SEMICOLON); told++) {
                int s = known(stateNames, k * MOST_STATES, draft.kinds.states[k]);
                if (s == NONE) {
                    return false;
                }
                draft.kinds.ends[k] |= 1 << s;
                tape.advance();
            }
            return takeSign(Tape.SEMICOLON);
        }

        private boolean readMethod(int sort) {
            tape.advance();
            int k = known(kindNames, 0, draft.kinds.count);
            if (k == NONE) {
                return false;
            }
            tape.advance();
            int m = methodToTell(k, sort);
            if (m == NONE) {
                return false;
            }
            tape.advance();
            return readWhatComes(k, m, sort) && takeSign(Tape.SEMICOLON);
        }

        private boolean readWhatComes(int k, int m, int sort) {
            int state = NONE;
            int ifYes = NONE;
            int ifNo = NONE;
            int told = 1;
            if (sort != LOOK) {
                told = sort == TEST ? 3 : 2;
            }
            for (int i = 0; i < told; i++) {
                int named = known(stateNames, k * MOST_STATES, draft.kinds.states[k]);
                if (named == NONE) {
                    return false;
                }
                if (i == 0 && draft.kinds.canBe(k, m, named)) {
                    return fail(FAULT_TOLD_ALREADY);
                }
                // What is told first stands for what isn't told behind it.
                state = i == 0 ? named : state;
                ifYes = i <= 1 ? named : ifYes;
                ifNo = named;
                tape.advance();
            }
            draft.kinds.allow(k, m, state, ifYes, ifNo);
            return true;
        }

        private boolean readVariable() {
            if (draft.variables >= MOST_VARIABLES) {
                return fail(FAULT_TOO_MANY);
            }
            tape.advance();
            if (!isNewName(variableNames, 0, draft.variables)) {
                return false;
            }
            int v = draft.variables;
            variableNames[v] = tape.word;
            tape.advance();
            int k = known(kindNames, 0, draft.kinds.count);
            if (k == NONE) {
                return false;
            }
            draft.kindOf[v] = k;
            draft.variables++;
            tape.advance();
            return takeSign(Tape.SEMICOLON);
        }

        private boolean readStatement(int sort) {
            if (draft.statements >= MOST_STATEMENTS || open >= MOST_NESTED) {
                return fail(FAULT_TOO_MANY);
            }
            int i = draft.addStatement(sort, open == 0 ? NONE : openOnes[open - 1], open);
            tape.advance();
            if (sort < MAYBE && !readFirst(i)) {
                return false;
            }
            if (sort >= MOVE && sort <= JOIN && !readSecond(i)) {
                return false;
            }
            if (sort >= DO && sort <= WHILE && !readAsked(i, sort != DO)) {
                return false;
            }
            if (sort < IF) {
                return takeSign(Tape.SEMICOLON);
            }
            openOnes[open] = i;
            inElse[open] = false;
            open++;
            return takeSign(Tape.OPEN);
        }

        private boolean readFirst(int i) {
            int v = known(variableNames, 0, draft.variables);
            if (v == NONE) {
                return false;
            }
            draft.first[i] = v;
            tape.advance();
            return true;
        }

        private boolean readSecond(int i) {
            int v = known(variableNames, 0, draft.variables);
            if (v == NONE) {
                return false;
            }
            int other = draft.first[i];
            if (v == other || draft.kindOf[v] != draft.kindOf[other]) {
                return fail(FAULT_OTHER_SORT);
            }
            draft.second[i] = v;
            tape.advance();
            return true;
        }

        private boolean readAsked(int i, boolean wantsTest) {
            int k = draft.kindOf[draft.first[i]];
            int m = known(methodNames, k * MOST_METHODS, draft.kinds.methods[k]);
            if (m == NONE) {
                return false;
            }
            if ((draft.kinds.sortOf(k, m) == TEST) != wantsTest) {
                return fail(FAULT_OTHER_SORT);
            }
            draft.asked[i] = m;
            tape.advance();
            return true;
        }

        private boolean closeBlock() {
            int level = open - 1;
            int i = openOnes[level];
            tape.advance();
            if (!inElse[level]) {
                draft.split[i] = draft.statements;
            }
            boolean mayHaveElse = draft.sort[i] == IF || draft.sort[i] == MAYBE;
            if (mayHaveElse && !inElse[level] && tape.token == Tape.WORD_ELSE) {
                inElse[level] = true;
                tape.advance();
                return takeSign(Tape.OPEN);
            }
            draft.close[i] = draft.statements;
            open = level;
            return true;
        }

        private int methodToTell(int k, int sort) {
            if (tape.token != Tape.NAME) {
                fail(FAULT_CANT_STAND);
                return NONE;
            }
            int m = find(methodNames, k * MOST_METHODS, draft.kinds.methods[k]);
            if (m == NONE && draft.kinds.methods[k] >= MOST_METHODS) {
                fail(FAULT_TOO_MANY);
                return NONE;
            }
            if (m == NONE) {
                m = draft.kinds.addMethod(k, sort);
                methodNames[k * MOST_METHODS + m] = tape.word;
            }
            if (draft.kinds.sortOf(k, m) != sort) {
                fail(FAULT_OTHER_SORT);
                return NONE;
            }
            return m;
        }

        private boolean isNewName(long[] names, int from, int count) {
            if (tape.token != Tape.NAME) {
                return fail(FAULT_CANT_STAND);
            }
            return find(names, from, count) == NONE || fail(FAULT_TOLD_ALREADY);
        }

        private int known(long[] names, int from, int count) {
            if (tape.token != Tape.NAME) {
                fail(FAULT_CANT_STAND);
                return NONE;
            }
            int found = find(names, from, count);
            if (found == NONE) {
                fail(FAULT_NO_SUCH);
            }
            return found;
        }

        private int find(long[] names, int from, int count) {
            for (int i = 0; i < count; i++) {
                if (names[from + i] == tape.word) {
                    return i;
                }
            }
            return NONE;
        }

        private boolean takeSign(int sign) {
            if (tape.token != sign) {
                return fail(FAULT_CANT_STAND);
            }
            tape.advance();
            return true;
        }

        /** Of one TOKEN the least kind. Answers false, so that a reader can give it on. */
        private boolean fail(int sort) {
            faultSort = tape.token == Tape.NO_TOKEN ? FAULT_NO_TOKEN : sort;
            faultPlace = tape.start;
            return false;
        }
    }

    /**
     * What the VARIABLES hold at a PLACE. CHECK keeps sets in it; a CONFIGURATION is the same with
     * one HOW and at most one STATE each, where MAY and MUST are alike: what CHECK says of a
     * STATEMENT then says what the STATEMENT truly does.
     */
    private static final class Hold {
        static final int HOW = 0;
        static final int STATES = MOST_VARIABLES;
        static final int MAY = 2 * MOST_VARIABLES;
        static final int MUST = 3 * MOST_VARIABLES;
        static final int ALL = 4 * MOST_VARIABLES;
        static final int KEY_BITS = 8;

        private final int[] bits = new int[ALL];

        /** what 0: HOW, 1: STATES, 2: MAY, 3: MUST. */
        int part(int what, int v) {
            return bits[what * MOST_VARIABLES + v];
        }

        int states(int v) {
            return bits[STATES + v];
        }

        boolean isAlone(int v) {
            return bits[MUST + v] == 0;
        }

        void begin() {
            Arrays.fill(bits, 0);
            for (int v = 0; v < MOST_VARIABLES; v++) {
                bits[HOW + v] = HELD_NOT;
            }
        }

        void copyFrom(Hold other) {
            System.arraycopy(other.bits, 0, bits, 0, ALL);
        }

        /** Another path comes here: whether that tells anything new. */
        boolean meet(Hold other) {
            boolean isNew = false;
            for (int i = 0; i < ALL; i++) {
                int met = i < MUST ? bits[i] | other.bits[i] : bits[i] & other.bits[i];
                if (met != bits[i]) {
                    bits[i] = met;
                    isNew = true;
                }
            }
            return isNew;
        }

        int things(int variables) {
            int count = 0;
            for (int v = 0; v < variables; v++) {
                boolean isFirstHolder = (bits[MUST + v] & ((1 << v) - 1)) == 0;
                if (bits[HOW + v] != HELD_NOT && isFirstHolder) {
                    count++;
                }
            }
            return count;
        }

        /** Why a PLACE is WRONG (0: it is not). */
        int reasonAt(Program p, int place) {
            if (place >= p.statements) {
                return reasonAtEnd(p);
            }
            int a = p.first[place];
            int b = p.second[place];
            switch (p.sort[place]) {
                case NEW:
                    return mayHold(a) ? WRONG_HELD_OR_NONE : 0;
                case MOVE:
                case LEND:
                    return mayHold(a) || mayLack(b) ? WRONG_HELD_OR_NONE : 0;
                case SHARE:
                    return mayHold(a) || mayLack(b) ? WRONG_HELD_OR_NONE : reasonOfHow(b);
                case JOIN:
                    return mayLack(a) || mayLack(b) ? WRONG_HELD_OR_NONE : reasonOfJoin(a, b);
                case DROP:
                    return mayLack(a) ? WRONG_HELD_OR_NONE : reasonOfDrop(p, a);
                case DO:
                case IF:
                case WHILE:
                    return mayLack(a) ? WRONG_HELD_OR_NONE : reasonOfAsking(p, a, p.asked[place]);
                default:
                    return 0;
            }
        }

        private int reasonAtEnd(Program p) {
            for (int v = 0; v < p.variables; v++) {
                if (inNoEnd(p, v)) {
                    return WRONG_LEFT;
                }
            }
            return 0;
        }

        private int reasonOfHow(int v) {
            return (bits[HOW + v] & TO_LOOK) != 0 ? WRONG_HOW : 0;
        }

        private int reasonOfJoin(int a, int b) {
            return (bits[MUST + a] >> b & 1) == 0 ? WRONG_OTHER_THING : 0;
        }

        private int reasonOfDrop(Program p, int v) {
            return isAlone(v) && inNoEnd(p, v) ? WRONG_LEFT : 0;
        }

        private int reasonOfAsking(Program p, int v, int m) {
            int k = p.kindOf[v];
            if (p.kinds.sortOf(k, m) != LOOK && reasonOfHow(v) != 0) {
                return WRONG_HOW;
            }
            return (bits[STATES + v] & ~p.kinds.statesOf(k, m)) != 0 ? WRONG_STATE : 0;
        }

        private boolean mayHold(int v) {
            return (bits[HOW + v] & ~HELD_NOT) != 0;
        }

        private boolean mayLack(int v) {
            return (bits[HOW + v] & HELD_NOT) != 0;
        }

        private boolean inNoEnd(Program p, int v) {
            return (bits[STATES + v] & ~p.kinds.ends[p.kindOf[v]]) != 0;
        }

        /** Goes through a STATEMENT, by yes or no: whether anything goes on. */
        boolean pass(Program p, int i, boolean yes) {
            int a = p.first[i];
            int b = p.second[i];
            switch (p.sort[i]) {
                case NEW:
                    letGo(a);
                    bits[HOW + a] = WHOLE;
                    bits[STATES + a] = 1;
                    return true;
                case MOVE:
                    letGo(a);
                    becomeLike(a, b);
                    bits[HOW + a] = bits[HOW + b];
                    letGo(b);
                    return true;
                case SHARE:
                    letGo(a);
                    becomeLike(a, b);
                    makeOne(a, b);
                    bits[HOW + b] = SHARED | (bits[HOW + b] & HELD_NOT);
                    bits[HOW + a] = bits[HOW + b];
                    return true;
                case LEND:
                    letGo(a);
                    becomeLike(a, b);
                    makeOne(a, b);
                    bits[HOW + a] = TO_LOOK | (bits[HOW + b] & HELD_NOT);
                    bits[HOW + b] = lookForWhole(bits[HOW + b]);
                    return true;
                case JOIN:
                    passJoin(a, b);
                    return true;
                case DROP:
                    letGo(a);
                    return true;
                case DO:
                case IF:
                case WHILE:
                    return ask(p, a, p.asked[i], yes);
                default:
                    return true;
            }
        }

        private static int lookForWhole(int how) {
            return (how & WHOLE) != 0 ? (how & ~WHOLE) | TO_LOOK : how;
        }

        private void passJoin(int a, int b) {
            letGo(b);
            if (bits[MAY + a] == 0) {
                bits[HOW + a] = WHOLE;
            } else if (isAlone(a)) {
                bits[HOW + a] |= WHOLE;
            }
        }

        private boolean ask(Program p, int v, int m, boolean yes) {
            int k = p.kindOf[v];
            int came = p.kinds.image(k, m, bits[STATES + v], yes);
            if (came == 0) {
                return false;
            }
            for (int w = 0; w < MOST_VARIABLES; w++) {
                int had = bits[STATES + w];
                if ((bits[MUST + v] >> w & 1) != 0) {
                    bits[STATES + w] = p.kinds.image(k, m, had, yes);
                } else if ((bits[MAY + v] >> w & 1) != 0) {
                    bits[STATES + w] = had | p.kinds.image(k, m, had, yes);
                }
            }
            bits[STATES + v] = came;
            return true;
        }

        /** The VARIABLE holds none, and is one with none. */
        private void letGo(int v) {
            for (int w = 0; w < MOST_VARIABLES; w++) {
                bits[MAY + w] &= ~(1 << v);
                bits[MUST + w] &= ~(1 << v);
            }
            bits[HOW + v] = HELD_NOT;
            bits[STATES + v] = 0;
            bits[MAY + v] = 0;
            bits[MUST + v] = 0;
        }

        /** a, which holds none, has the STATES of b, and is one with those that b is one with. */
        private void becomeLike(int a, int b) {
            bits[STATES + a] = bits[STATES + b];
            bits[MAY + a] = bits[MAY + b];
            bits[MUST + a] = bits[MUST + b];
            for (int w = 0; w < MOST_VARIABLES; w++) {
                bits[MAY + w] |= (bits[MAY + a] >> w & 1) << a;
                bits[MUST + w] |= (bits[MUST + a] >> w & 1) << a;
            }
        }

        private void makeOne(int a, int b) {
            bits[MAY + a] |= 1 << b;
            bits[MUST + a] |= 1 << b;
            bits[MAY + b] |= 1 << a;
            bits[MUST + b] |= 1 << a;
        }

        /** A number for a CONFIGURATION: two are the same if their numbers are. */
        long key(int place) {
            long key = place;
            for (int v = 0; v < MOST_VARIABLES; v++) {
                int how = lowestBit(bits[HOW + v]);
                int state = lowestBit(bits[STATES + v]);
                int firstHolder = lowestBit(bits[MUST + v] | 1 << v);
                key = key << KEY_BITS | how << 6 | state << 3 | firstHolder;
            }
            return key;
        }

        static int placeOf(long key) {
            return (int) (key >> KEY_BITS * MOST_VARIABLES);
        }

        void setFrom(long key) {
            begin();
            for (int v = 0; v < MOST_VARIABLES; v++) {
                int own = keyPart(key, v);
                bits[HOW + v] = 1 << (own >> 6);
                if (bits[HOW + v] != HELD_NOT) {
                    bits[STATES + v] = 1 << (own >> 3 & 7);
                }
                for (int w = 0; w < v; w++) {
                    if ((keyPart(key, w) & 7) == (own & 7)) {
                        makeOne(v, w);
                    }
                }
            }
        }

        private static int keyPart(long key, int v) {
            return (int) (key >> KEY_BITS * (MOST_VARIABLES - 1 - v)) & 255;
        }

        private static int lowestBit(int set) {
            return set == 0 ? 0 : Integer.numberOfTrailingZeros(set);
        }
    }

    /** CHECK: what may be at each PLACE, gone round till nothing is new. */
    private static final class Flow {
        /** Far above how often something new can come to the PLACES. */
        static final int MOST_ROUNDS = 10000;

        final Hold[] holds = new Hold[MOST_PLACES];
        final boolean[] canCome = new boolean[MOST_PLACES];
        final int[] reasons = new int[MOST_PLACES];
        int wrongPlaces;
        int firstWrong;
        int comingPlaces;
        private final boolean[] fresh = new boolean[MOST_PLACES];
        private final Hold now = new Hold();

        Flow() {
            for (int place = 0; place < MOST_PLACES; place++) {
                holds[place] = new Hold();
            }
        }

        int firstReason() {
            return firstWrong < 0 || firstWrong >= MOST_PLACES ? 0 : reasons[firstWrong];
        }

        /** With one STATEMENT left out, unless that is NONE. */
        void solve(Program p, int leftOut) {
            Arrays.fill(reasons, 0);
            for (int place = 0; place < MOST_PLACES; place++) {
                canCome[place] = false;
                fresh[place] = false;
            }
            now.begin();
            arrive(0);
            boolean isNew = true;
            for (int round = 0; isNew && round < MOST_ROUNDS; round++) {
                isNew = false;
                for (int i = 0; i < p.statements; i++) {
                    if (fresh[i]) {
                        fresh[i] = false;
                        isNew = true;
                        goOn(p, i, i == leftOut);
                    }
                }
            }
            judge(p, leftOut);
        }

        private void goOn(Program p, int i, boolean leftOut) {
            now.copyFrom(holds[i]);
            if (leftOut) {
                arrive(p.after[i]);
                return;
            }
            if (now.pass(p, i, true)) {
                arrive(p.byYes[i]);
            }
            if (p.byNo[i] == NONE) {
                return;
            }
            now.copyFrom(holds[i]);
            if (now.pass(p, i, false)) {
                arrive(p.byNo[i]);
            }
        }

        private void arrive(int place) {
            if (!canCome[place]) {
                canCome[place] = true;
                fresh[place] = true;
                holds[place].copyFrom(now);
            } else if (holds[place].meet(now)) {
                fresh[place] = true;
            }
        }

        private void judge(Program p, int leftOut) {
            wrongPlaces = 0;
            firstWrong = NONE;
            comingPlaces = 0;
            for (int place = 0; place <= p.statements; place++) {
                if (!canCome[place]) {
                    continue;
                }
                comingPlaces++;
                reasons[place] = place == leftOut ? 0 : holds[place].reasonAt(p, place);
                if (reasons[place] != 0) {
                    wrongPlaces++;
                    firstWrong = firstWrong == NONE ? place : firstWrong;
                }
            }
        }
    }

    /** PATHS: the CONFIGURATIONS that can come, the nearest to the beginning first. */
    private static final class Search {
        static final int SLOTS = 2048;
        static final long SPREAD = 0x9E3779B97F4A7C15L;
        static final int SPREAD_SHIFT = 53;

        int count;
        boolean more;
        int wrongs;
        int wrongLength;
        int wrongReason;
        int mostThings;
        int goodEndings;
        final boolean[] reached = new boolean[MOST_PLACES];
        final int[] leftStates = new int[MOST_KINDS];
        private int firstWrong;
        private final long[] keys = new long[MOST_CONFIGURATIONS];
        private final int[] cameFrom = new int[MOST_CONFIGURATIONS];
        private final int[] slots = new int[SLOTS];
        private final Hold here = new Hold();
        private final Hold next = new Hold();

        void explore(Program p) {
            forget();
            here.begin();
            add(here.key(0), NONE);
            for (int c = 0; c < MOST_CONFIGURATIONS && c < count && !more; c++) {
                int place = Hold.placeOf(keys[c]);
                here.setFrom(keys[c]);
                if (goesOnFrom(p, c, place)) {
                    follow(p, c, place, true);
                    follow(p, c, place, false);
                }
            }
            wrongLength = lengthTo(firstWrong);
        }

        private void forget() {
            count = 0;
            more = false;
            wrongs = 0;
            firstWrong = NONE;
            wrongReason = 0;
            mostThings = 0;
            goodEndings = 0;
            Arrays.fill(slots, 0);
            Arrays.fill(leftStates, 0);
            for (int place = 0; place < MOST_PLACES; place++) {
                reached[place] = false;
            }
        }

        /** Notes what there is to tell of a CONFIGURATION: whether it is neither WRONG nor at the end. */
        private boolean goesOnFrom(Program p, int c, int place) {
            reached[place] = true;
            mostThings = Math.max(mostThings, here.things(p.variables));
            noteLeft(p, place);
            int reason = here.reasonAt(p, place);
            if (reason != 0) {
                wrongs++;
                firstWrong = firstWrong == NONE ? c : firstWrong;
                wrongReason = wrongReason == 0 ? reason : wrongReason;
                return false;
            }
            if (place >= p.statements) {
                goodEndings++;
                return false;
            }
            return true;
        }

        private void noteLeft(Program p, int place) {
            if (place >= p.statements) {
                for (int v = 0; v < p.variables; v++) {
                    leftStates[p.kindOf[v]] |= here.states(v);
                }
            } else if (p.sort[place] == DROP && here.isAlone(p.first[place])) {
                int v = p.first[place];
                leftStates[p.kindOf[v]] |= here.states(v);
            }
        }

        private void follow(Program p, int c, int place, boolean yes) {
            int to = yes ? p.byYes[place] : p.byNo[place];
            next.copyFrom(here);
            if (to != NONE && next.pass(p, place, yes)) {
                add(next.key(to), c);
            }
        }

        private void add(long key, int from) {
            int slot = (int) (key * SPREAD >>> SPREAD_SHIFT);
            for (int probe = 0; probe < SLOTS; probe++) {
                if (slots[slot] == 0) {
                    addAt(slot, key, from);
                    return;
                }
                if (keys[slots[slot] - 1] == key) {
                    return;
                }
                slot = (slot + 1) % SLOTS;
            }
        }

        private void addAt(int slot, long key, int from) {
            if (count >= MOST_CONFIGURATIONS) {
                more = true;
                return;
            }
            keys[count] = key;
            cameFrom[count] = from;
            count++;
            slots[slot] = count;
        }

        private int lengthTo(int c) {
            int length = 0;
            for (int back = c; back != NONE && length < MOST_CONFIGURATIONS; back = cameFrom[back]) {
                length++;
            }
            return length;
        }

        int placeOnWrongPath(int i) {
            int back = firstWrong;
            for (int step = wrongLength - 1; step > i && back != NONE; step--) {
                back = cameFrom[back];
            }
            return back == NONE ? NONE : Hold.placeOf(keys[back]);
        }

        /** what 0: HOW, 1: STATES, 2: one with it in some, 3: in all in which it holds one. */
        int gather(int place, int v, int what) {
            int some = 0;
            int all = (1 << MOST_VARIABLES) - 1;
            boolean holdsOne = false;
            for (int c = 0; c < count; c++) {
                if (Hold.placeOf(keys[c]) == place) {
                    here.setFrom(keys[c]);
                    some |= here.part(what, v);
                    if (here.states(v) != 0) {
                        holdsOne = true;
                        all &= here.part(what, v);
                    }
                }
            }
            if (what != 3) {
                return some;
            }
            return holdsOne ? all : 0;
        }
    }

    /** RUN: one way through a program, its choices drawn by a SEED. */
    private static final class Runner {
        int steps;
        int ending;
        int place;
        int made;
        private int draw;
        private final Hold here = new Hold();

        void go(Program p, int seed) {
            steps = 0;
            ending = 0;
            place = 0;
            made = 0;
            draw = seed;
            here.begin();
            boolean going = true;
            for (int round = 0; going && round <= MOST_STEPS; round++) {
                going = step(p);
            }
        }

        private boolean step(Program p) {
            if (place < p.statements && steps >= MOST_STEPS) {
                ending = TOO_LONG;
                return false;
            }
            ending = here.reasonAt(p, place);
            if (place >= p.statements) {
                return false;
            }
            steps++;
            if (ending != 0) {
                return false;
            }
            boolean yes = p.byNo[place] == NONE || drawYes();
            if (p.sort[place] == NEW) {
                made++;
            }
            here.pass(p, place, yes);
            place = yes ? p.byYes[place] : p.byNo[place];
            return true;
        }

        private boolean drawYes() {
            draw = (75 * draw + 74) % 65537;
            return draw % 2 == 0;
        }
    }
}
