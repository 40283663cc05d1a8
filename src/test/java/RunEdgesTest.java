/** The edges that the document names of RUNS: sentence by sentence. */
public final class RunEdgesTest extends Asking {
    private static final int HIGHEST = 65536;

    private static long drawn(long seed) {
        return (75 * seed + 74) % 65537;
    }

    /** Whether the n-th choice (from 1 on) of a RUN is yes. */
    private static boolean isYes(int seed, int n) {
        long draw = seed;
        for (int i = 0; i < n; i++) {
            draw = drawn(draw);
        }
        return draw % 2 == 0;
    }

    /** How often a loop is gone round at the beginning of a RUN, with some choices in its BLOCK. */
    private static int rounds(int seed, int choices) {
        long draw = drawn(seed);
        int count = 0;
        while (draw % 2 == 0 && count < 20) {
            count++;
            for (int i = 0; i <= choices; i++) {
                draw = drawn(draw);
            }
        }
        return count;
    }

    private static int seedWith(int rounds, int choices) {
        for (int seed = 0; seed <= HIGHEST; seed++) {
            if (rounds(seed, choices) == rounds) {
                return seed;
            }
        }
        due("there is a seed for " + rounds + " times round", 0, 1);
        return 0;
    }

    private static void draws() {
        sentence("RUN by a SEED: at each choice (of a TEST, of maybe, loop) a DRAW mod 2: 0 yes, the first BLOCK, once more;"
            + " SEED becomes (75 times SEED and 74) mod 65,537 ahead of each.");
        String[] choices = {"maybe{drop b;}else{drop c;}", "loop{drop b;}drop c;", "if a more{drop b;}else{drop c;}",
            "while a more{drop b;}drop c;"};
        int zero = 0;
        while (drawn(zero) != 0) {
            zero++;
        }
        // 873 and 874 are the first seeds that wrap around: even comes of odd, odd of even.
        int[] seeds = {0, 1, 2, 872, 873, 874, 875, zero, zero - 1, zero + 1, 32768, 65535, HIGHEST};
        due("873 is followed by", drawn(873), 12);
        due("874 is followed by", drawn(874), 87);
        for (String choice : choices) {
            HoldChecker x = file("new a;do a begin;" + choice);
            for (int seed : seeds) {
                gives(x, choice + " by " + seed, x.run(seed, 2), isYes(seed, 1) ? 3 : 4);
            }
        }
        HoldChecker third = file("maybe{}new a;do a begin;if a more{}else{do a begin;}maybe{drop b;}else{drop c;}");
        HoldChecker none = file("maybe{drop b;}else{drop c;}");
        for (int seed : seeds) {
            gives(third, "the third choice by " + seed, third.run(seed, 2), isYes(seed, 3) ? 6 : 7);
            gives(third, "again, the same", third.run(seed, 2), isYes(seed, 3) ? 6 : 7);
            gives(none, "the first by " + seed, none.run(seed, 2), isYes(seed, 1) ? 1 : 2);
        }
        HoldChecker test = loaded("kind k s;end k s;test k t s s s;var a k;new a;if a t{}else{}maybe{drop a;}");
        for (int seed : seeds) {
            gives(test, "a test to one state draws, too, " + seed, test.run(seed, 0), isYes(seed, 2) ? 4 : 3);
        }
        HoldChecker loop = file("loop{maybe{}}");
        for (int seed : seeds) {
            int round = rounds(seed, 1);
            if (round < 20) {
                gives(loop, "round by " + seed, loop.run(seed, 0), 2 * round + 1);
            }
        }
    }

    private static void longRuns() {
        sentence("300 STATEMENTS at most (if one more is to come then, it is too long).");
        String round = "loop{" + times(32, "maybe{}") + "}";
        int nine = seedWith(9, 32);
        int ten = seedWith(10, 32);
        // 9 times round are 297 STATEMENTS; the loop once more, on by no, is the 298th.
        runIs(file("new a;" + round + "drop a;"), nine, 300, 0, 35, 1);
        runIs(file("new a;" + round + "drop b;"), nine, 300, 1, 34, 1);
        runIs(file("new a;do a begin;" + round), nine, 300, 5, 35, 1);
        runIs(file("new a;do a begin;" + round + "do a close;"), nine, 300, 6, 35, 1);
        runIs(file("new a;do a begin;" + round + "drop b;"), nine, 300, 6, 35, 1);
        runIs(file("new a;" + round + "maybe{}maybe{}"), nine, 300, 6, 35, 1);
        runIs(file("new a;" + round), nine, 299, 0, 34, 1);
        runIs(file("new a;" + round), ten, 300, 6, 3, 1);
        runIs(file("loop{new a;drop a;}"), HIGHEST, 300, 6, 0, 100);
        runIs(file("loop{}"), HIGHEST, 300, 6, 0, 0);
        runIs(file("new a;loop{new b;drop b;}"), HIGHEST, 300, 6, 3, 101);
        runIs(file("new a;do a begin;while a more{do a read;}"), HIGHEST, 300, 6, 2, 1);
    }

    private static void ways() {
        sentence("A RUN by a SEED (0 to 65,536), what 0: STATEMENTS gone through (a WRONG one, too, not the end), 1: how it"
            + " went (0 to the end, 1 to 5 WRONG, 6 too long), 2: the PLACE at which it stands, 3: things that were new"
            + " (1).");
        int[] seeds = {0, 1, HIGHEST};
        for (int seed : seeds) {
            runIs(file(""), seed, 0, 0, 0, 0);
            runIs(file("new a;drop a;new a;"), seed, 3, 0, 3, 2);
            runIs(file("new a;new a;"), seed, 2, 1, 1, 1);
            runIs(file("drop a;new a;"), seed, 1, 1, 0, 0);
            runIs(file("new a;new b;join a b;"), seed, 3, 2, 2, 2);
            runIs(file("new a;lend b a;do b begin;"), seed, 3, 3, 2, 1);
            runIs(file("new a;do a close;new b;"), seed, 2, 4, 1, 1);
            runIs(file("new a;do a begin;drop a;"), seed, 3, 5, 2, 1);
            runIs(file("new a;do a begin;"), seed, 2, 5, 2, 1);
            runIs(loaded(times(40, "maybe{}")), seed, 40, 0, 40, 0);
            runIs(new HoldChecker(), seed, 0, 0, 0, 0);
        }
        runIs(file("loop{}"), HIGHEST, 300, 6, 0, 0);
        HoldChecker x = file("new a;");
        int[] wrongSeeds = {LEAST, -1, HIGHEST + 1, MOST};
        for (int seed : wrongSeeds) {
            refuses(x, "seed " + seed, x.run(seed, 0), 1);
            refuses(x, "seed " + seed + ", what 4", x.run(seed, 4), 1);
        }
        int[] wrongWhats = {LEAST, -2, -1, 4, MOST};
        for (int what : wrongWhats) {
            refuses(x, "what " + what, x.run(0, what), 1);
        }
    }

    private static void countsOfRuns() {
        sentence("RUNS by SEEDS from one on (seed, seed and 1, ..; n 1 to 50, none above 65,536): how many go as told (0 to"
            + " 6) (1).");
        HoldChecker x = file("new a;maybe{drop b;}else{do a close;}");
        int[][] rows = {{0, 1}, {1, 1}, {0, 50}, {1, 49}, {850, 50}, {65487, 50}, {65486, 50}, {HIGHEST, 1}, {65535, 2}};
        for (int[] row : rows) {
            int yes = 0;
            for (int i = 0; i < row[1]; i++) {
                yes += isYes(row[0] + i, 1) ? 1 : 0;
            }
            int[] due = {0, yes, 0, 0, row[1] - yes, 0, 0};
            for (int how = 0; how <= 6; how++) {
                gives(x, row[1] + " from " + row[0] + " as " + how, x.runs(row[0], row[1], how), due[how]);
            }
        }
        String[] programs = {"", "drop a;", "new a;new b;join a b;", "new a;lend b a;do a begin;", "new a;do a close;",
            "new a;do a begin;"};
        for (int how = 0; how < programs.length; how++) {
            HoldChecker y = file(programs[how]);
            gives(y, "all of them as " + how, y.runs(0, 50, how), 50);
            gives(y, "none of them else", y.runs(0, 50, how == 0 ? 1 : how - 1), 0);
        }
        HoldChecker endless = file("loop{}");
        gives(endless, "too long", endless.runs(HIGHEST, 1, 6), 1);
        gives(endless, "to the end", endless.runs(HIGHEST, 1, 0), 0);
        gives(endless, "all but the highest to the end", endless.runs(65487, 50, 0), 49);
        int[][] wrong = {{-1, 1, 0}, {LEAST, 50, 0}, {65537, 1, 0}, {MOST, 50, 0}, {HIGHEST, 2, 0}, {65488, 50, 0},
            {0, 0, 0}, {0, -1, 0}, {0, 51, 0}, {0, LEAST, 0}, {0, MOST, 0}, {MOST, MOST, 0}, {0, 1, -1}, {0, 1, 7},
            {0, 1, LEAST}, {0, 1, MOST}, {-1, 2, 0}, {-49, 50, 0}};
        for (int[] row : wrong) {
            refuses(x, row[1] + " from " + row[0] + " as " + row[2], x.runs(row[0], row[1], row[2]), 1);
        }
    }

    public static void main(String[] args) {
        draws();
        longRuns();
        ways();
        countsOfRuns();
        finish("edges of RUNS");
    }
}
