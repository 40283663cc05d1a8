/** The edges that the document names of PATHS: sentence by sentence. */
public final class PathEdgesTest extends Asking {
    private static final int[] OUTSIDE = {LEAST, -2, -1, MOST};
    /** CHECK doesn't know that whichever is shared went down again with x: an ALARM. */
    private static final String ALARM = "kind k a b;end k a;call k up a b;call k down b a;var x k;var y k;var z k;"
        + "new x;maybe{share y x;}else{share z x;}do x up;do x down;";

    /** The PATH that is WRONG, STATEMENT by STATEMENT, and its reason. */
    private static void wrongPath(HoldChecker x, int reason, int... due) {
        gives(x, "its reason", x.paths(3), reason);
        gives(x, "its length", x.paths(2), due.length);
        for (int i = 0; i < due.length; i++) {
            gives(x, "path " + i, x.path(i), due[i]);
        }
        refuses(x, "no more of it", x.path(due.length), 5);
    }

    private static void configurations() {
        sentence("CONFIGURATIONS: a PLACE, what each VARIABLE HOLDS and how, the STATE of each thing.");
        HoldChecker how = file("new a;maybe{share b a;drop b;}");
        pathsAre(how, 6, 0, NONE, NONE, 0, 1, 2);
        HoldChecker state = file("new a;maybe{do a begin;do a size;}");
        pathsAre(state, 6, 1, 5, 5, 0, 1, 1);
        HoldChecker which = file("new a;maybe{share b a;}else{new b;share c b;drop c;share c a;drop c;}");
        pathsAre(which, 10, 0, NONE, NONE, 0, 2, 2);
        trulyIs(which, 8, 0, 4, 1, 2, 0);
        trulyIs(which, 8, 1, 4, 1, 1, 0);
        HoldChecker place = file("loop{}loop{}");
        gives(place, "three places", place.paths(0), 3);
        HoldChecker same = file("maybe{new a;new b;}else{new b;new a;}");
        gives(same, "the same comes either way", same.paths(0), 6);
        HoldChecker again = file("loop{new a;drop a;}");
        gives(again, "a new thing each time is no other", again.paths(0), 4);
        HoldChecker swapped = file("new a;new b;loop{move c a;move a b;move b c;}");
        gives(swapped, "nor two that are alike", swapped.paths(0), 7);
        sentence("From the beginning (all hold none) those that can come, by all branches (of a TEST that comes to one STATE"
            + " by yes and by no both)");
        HoldChecker test = loaded("kind k s;end k s;test k t s s s;var a k;var b k;new a;if a t{new b;}else{loop{}}");
        gives(test, "all are come to", test.never(NONE), 0);
        pathsAre(test, 6, 0, NONE, NONE, 0, 2, 2);
        HoldChecker begin = file("maybe{}");
        trulyIs(begin, 0, 0, 1, 0, 0, 0);
        pathsAre(new HoldChecker(), 1, 0, NONE, NONE, 0, 0, 1);
        HoldChecker wrong = file("drop a;new b;");
        gives(wrong, "nothing comes behind what is wrong", wrong.paths(0), 1);
        HoldChecker round = file("new a;do a begin;while a more{do a read;}");
        gives(round, "round and on", round.paths(0), 5);
    }

    private static void most() {
        sentence("at most 1,000 (a CONFIGURATION more that is new: MORE).");
        pathsAre(loaded(mostConfigurations()), 1000, 0, NONE, NONE, 0, 6, 64);
        HoldChecker more = loaded(moreConfigurations());
        for (int what = 0; what < 7; what++) {
            refuses(more, "1,001, " + what, more.paths(what), 6);
        }
        HoldChecker far = loaded(manyText(0, 0, 0, 0, 0, 0, 22));
        refuses(far, "far more", far.paths(0), 6);
        HoldChecker wrong = loaded(moreConfigurations().replace("new a;", "new a;maybe{drop a;drop a;}else{}"));
        refuses(wrong, "though a path is wrong", wrong.paths(3), 6);
        gives(wrong, "which CHECK sees", wrong.check(2), 1);
        // The last ones come back into the loop when all 1,000 are there: none of those is new.
        String back = "loop{maybe{}}";
        pathsAre(loaded(manyText(0, 0, 1, 0, 0, 1, 10) + back), 1000, 0, NONE, NONE, 0, 6, 64);
        HoldChecker one = loaded(manyText(1, 0, 1, 0, 0, 1, 10) + back);
        refuses(one, "one more that is new", one.paths(0), 6);
    }

    private static void fewest() {
        sentence("A PATH that is WRONG: the fewest STATEMENTS gone through, to the WRONG one, it too (the end counts as"
            + " one)");
        wrongPath(file("drop a;"), 1, 0);
        wrongPath(file("new a;do a begin;"), 5, 0, 1, 2);
        wrongPath(file("maybe{new a;drop a;drop a;}else{new b;drop c;}"), 1, 0, 4, 5);
        wrongPath(file("new a;do a begin;loop{do a read;}"), 5, 0, 1, 2, 4);
        wrongPath(file("new a;do a begin;while a more{do a close;}drop a;"), 4, 0, 1, 2, 3, 2);
        wrongPath(file("loop{new a;}"), 1, 0, 1, 0, 1);
        wrongPath(file("maybe{new a;do a begin;}else{loop{maybe{drop b;}}}"), 5, 0, 1, 2, 6);
        wrongPath(loaded("kind k s;var a k;maybe{loop{drop a;}}else{new a;}"), 1, 0, 1, 2);
        wrongPath(loaded("kind k s;var a k;" + times(39, "loop{}") + "new a;"), 5, places(41));
        sentence("of several the first, STATEMENT by STATEMENT: by yes (or into the BLOCK) ahead of by no (or by the other"
            + " one).");
        wrongPath(file("maybe{drop a;}else{drop b;}"), 1, 0, 1);
        wrongPath(file("maybe{}else{drop a;}drop b;"), 1, 0, 2);
        wrongPath(file("maybe{maybe{}}else{loop{}}drop a;"), 1, 0, 1, 3);
        wrongPath(file("new a;maybe{do a close;}else{drop b;}"), 4, 0, 1, 2);
        wrongPath(file("new a;maybe{drop b;}else{do a close;}"), 1, 0, 1, 2);
        wrongPath(file("loop{drop a;}drop b;"), 1, 0, 1);
        wrongPath(file("new a;do a begin;if a more{drop b;}else{drop c;}"), 1, 0, 1, 2, 3);
        wrongPath(file("new a;do a begin;while a more{drop b;}drop c;"), 1, 0, 1, 2, 3);
        wrongPath(file("new a;maybe{maybe{}else{new b;}}else{maybe{new b;}}new b;drop b;drop b;"), 1, 0, 1, 2, 3, 6);
        wrongPath(file("new a;do a begin;if a more{}else{new a;}drop a;"), 5, 0, 1, 2, 4);
    }

    private static int[] places(int count) {
        int[] all = new int[count];
        for (int i = 0; i < count; i++) {
            all[i] = i;
        }
        return all;
    }

    private static void alarms() {
        sentence("ALARM: CHECK refuses, and no PATH is WRONG.");
        HoldChecker alarm = loaded(ALARM);
        gives(alarm, "CHECK refuses", alarm.check(0), 0);
        pathsAre(alarm, 10, 0, NONE, NONE, 1, 1, 2);
        HoldChecker accepted = file("new a;");
        gives(accepted, "CHECK accepts", accepted.paths(4), 0);
        HoldChecker wrong = file("drop a;");
        gives(wrong, "a path is wrong", wrong.paths(4), 0);
        HoldChecker empty = new HoldChecker();
        gives(empty, "nothing at all", empty.paths(4), 0);
    }

    private static void pathsCalls() {
        sentence("PATHS, what 0: CONFIGURATIONS, 1: WRONG ones among them, 2: how many STATEMENTS the PATH that is WRONG has,"
            + " 3: its reason, 4: 1 if it is an ALARM, else 0, 5: the most things at once, 6: CONFIGURATIONS at the end that"
            + " are not WRONG (1; 6; 5 of 2, 3: none is WRONG).");
        pathsAre(file("new a;maybe{do a begin;}new a;"), 5, 2, 3, 1, 0, 1, 0);
        pathsAre(file("new a;maybe{do a begin;}else{maybe{new b;}else{new c;}}"), 9, 1, 4, 5, 0, 2, 2);
        pathsAre(file("new a;drop a;new b;drop b;"), 5, 0, NONE, NONE, 0, 1, 1);
        pathsAre(file("new a;share b a;lend c a;"), 4, 0, NONE, NONE, 0, 1, 1);
        pathsAre(file("new a;share b a;new c;"), 4, 0, NONE, NONE, 0, 2, 1);
        pathsAre(file("new c;share b c;new a;"), 4, 0, NONE, NONE, 0, 2, 1);
        pathsAre(file("new a;new b;new c;drop a;drop b;drop c;"), 7, 0, NONE, NONE, 0, 3, 1);
        pathsAre(file("new a;new b;drop c;"), 3, 1, 3, 1, 0, 2, 0);
        pathsAre(file(""), 1, 0, NONE, NONE, 0, 0, 1);
        HoldChecker fine = file("new a;");
        HoldChecker wrong = file("drop a;");
        HoldChecker more = loaded(moreConfigurations());
        int[] others = {LEAST, -2, -1, 7, MOST};
        for (int what : others) {
            refuses(fine, "fine, what " + what, fine.paths(what), 1);
            refuses(wrong, "wrong, what " + what, wrong.paths(what), 1);
            refuses(more, "more, what " + what, more.paths(what), 1);
        }
        sentence("The i-th STATEMENT of the PATH that is WRONG (1: below 0; 6; 5).");
        gives(wrong, "the only one", wrong.path(0), 0);
        int[] behind = {1, 2, 1000, MOST};
        for (int i : behind) {
            refuses(wrong, "behind it, " + i, wrong.path(i), 5);
        }
        refuses(fine, "none is wrong", fine.path(0), 5);
        refuses(more, "more", more.path(0), 6);
        refuses(more, "more, far behind", more.path(MOST), 6);
        HoldChecker[] all = {fine, wrong, more, new HoldChecker()};
        for (HoldChecker x : all) {
            refuses(x, "path -1", x.path(-1), 1);
            refuses(x, "path of the least", x.path(LEAST), 1);
        }
    }

    private static void trulyThere() {
        sentence("In CONFIGURATIONS at a PLACE of a VARIABLE, what 0: HOW it is held, 1: STATES of its thing, 2: those that"
            + " are one with it in some, 3: in all in which it holds one (0: in none), as bits (1; 2; 6; 5: none is there).");
        HoldChecker any = file("new a;maybe{drop a;}else{maybe{share b a;}else{maybe{lend b a;do b size;}}}");
        trulyIs(any, 8, 0, 15, 1, 2, 0);
        trulyIs(any, 8, 1, 7, 1, 1, 1);
        trulyIs(any, 8, 2, 1, 0, 0, 0);
        trulyIs(any, 0, 0, 1, 0, 0, 0);
        HoldChecker six = loaded("kind k s;end k s;var a k;var b k;var c k;var d k;var e k;var f k;"
            + "new a;share b a;share c b;lend d c;lend e d;share f a;");
        for (int v = 0; v < 6; v++) {
            trulyIs(six, 6, v, v == 3 || v == 4 ? 2 : 4, 1, 63 & ~(1 << v), 63 & ~(1 << v));
        }
        HoldChecker wrong = file("new a;drop b;drop a;");
        trulyIs(wrong, 1, 0, 8, 1, 0, 0);
        for (int what = 0; what < 4; what++) {
            refuses(wrong, "none is there, " + what, wrong.truly(2, 0, what), 5);
            refuses(wrong, "nor at the end, " + what, wrong.truly(3, 2, what), 5);
        }
        HoldChecker end = file("new a;do a begin;");
        trulyIs(end, 2, 0, 8, 2, 0, 0);
        HoldChecker more = loaded(moreConfigurations());
        HoldChecker[] all = {any, wrong, more};
        for (HoldChecker x : all) {
            for (int number : OUTSIDE) {
                refuses(x, "what " + number, x.truly(0, 0, number), 1);
                refuses(x, "all " + number, x.truly(number, number, number), 1);
                refuses(x, "place " + number, x.truly(number, 0, 0), 2);
                refuses(x, "variable " + number, x.truly(0, number, 0), 2);
            }
            int statements = x.many(2);
            int variables = x.many(1);
            refuses(x, "what 4", x.truly(0, 0, 4), 1);
            refuses(x, "what 4 of none", x.truly(statements + 1, variables, 4), 1);
            refuses(x, "no place behind the end", x.truly(statements + 1, 0, 0), 2);
            refuses(x, "no variable more", x.truly(0, variables, 3), 2);
        }
        refuses(more, "more", more.truly(0, 0, 0), 6);
        HoldChecker none = new HoldChecker();
        refuses(none, "no variable", none.truly(0, 0, 0), 2);
    }

    private static void leftBehind() {
        sentence("STATES in which things of a KIND are LEFT in PATHS (by drop, at the end), as bits (2; 6).");
        leaves(file("new a;drop a;"), 0, 1, "by drop");
        leaves(file("new a;"), 0, 1, "at the end");
        leaves(file("new a;do a begin;drop a;"), 0, 2, "by drop, in no end");
        leaves(file("new a;do a begin;"), 0, 2, "at the end, in no end");
        leaves(file("new a;do a begin;lend b a;drop a;"), 0, 2, "to be looked at");
        leaves(file("new a;share b a;drop b;do a begin;do a close;"), 0, 1, "not where another one holds it");
        leaves(file("new a;share b a;do a begin;drop b;do a close;"), 0, 1, "nor open");
        leaves(file("new a;do a begin;drop b;"), 0, 0, "nor where it goes wrong otherwise");
        leaves(file("new a;do a begin;share b a;join a b;do a close;"), 0, 1, "nor by join");
        leaves(file("maybe{new a;}else{new b;do b begin;}"), 0, 3, "either way");
        leaves(file(""), 0, 0, "none");
        HoldChecker all = loaded("kind k a b c d e f;kind l a b;end k a b c d e f;call k n a b;call k n b c;call k n c d;"
            + "call k n d e;call k n e f;call k n f f;var x k;var y l;new x;loop{do x n;}drop x;new y;");
        leaves(all, 0, 63, "all six");
        leaves(all, 1, 1, "of the other kind");
        HoldChecker more = loaded(moreConfigurations());
        refuses(more, "more", more.left(0), 6);
        HoldChecker[] objects = {all, more, new HoldChecker()};
        for (HoldChecker x : objects) {
            for (int number : OUTSIDE) {
                refuses(x, "kind " + number, x.left(number), 2);
            }
            refuses(x, "no kind more", x.left(x.many(0)), 2);
        }
    }

    private static void leaves(HoldChecker x, int k, int states, String what) {
        gives(x, "left " + what, x.left(k), states);
    }

    private static void nevers() {
        sentence("STATEMENTS that no PATH comes to: how many (i NONE), the i-th (1: below NONE; 6; 5).");
        HoldChecker none = file("new a;maybe{do a begin;do a close;}");
        gives(none, "none", none.never(NONE), 0);
        refuses(none, "no first", none.never(0), 5);
        HoldChecker some = file("new a;maybe{drop b;new b;}else{drop a;}new a;drop c;new c;");
        gives(some, "how many", some.never(NONE), 2);
        gives(some, "the first", some.never(0), 3);
        gives(some, "the second", some.never(1), 7);
        refuses(some, "no third", some.never(2), 5);
        refuses(some, "far behind", some.never(MOST), 5);
        HoldChecker most = loaded("kind k s;var a k;drop a;" + times(39, "new a;"));
        gives(most, "all but the first", most.never(NONE), 39);
        gives(most, "the last", most.never(38), 39);
        refuses(most, "the end is none", most.never(39), 5);
        HoldChecker checked = file("new a;maybe{drop b;}else{do a close;}drop a;");
        gives(checked, "CHECK comes to it", checked.check(4), 6);
        gives(checked, "no path does", checked.never(0), 4);
        HoldChecker more = loaded(moreConfigurations());
        refuses(more, "more", more.never(NONE), 6);
        refuses(more, "more, the first", more.never(0), 6);
        HoldChecker empty = new HoldChecker();
        gives(empty, "of nothing", empty.never(NONE), 0);
        HoldChecker[] all = {none, some, more, empty};
        for (HoldChecker x : all) {
            refuses(x, "never -2", x.never(-2), 1);
            refuses(x, "never of the least", x.never(LEAST), 1);
        }
    }

    public static void main(String[] args) {
        configurations();
        most();
        fewest();
        alarms();
        pathsCalls();
        trulyThere();
        leftBehind();
        nevers();
        finish("edges of PATHS");
    }
}
