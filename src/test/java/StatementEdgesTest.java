/** The edges that the document names of what STATEMENTS are, do, and must find: sentence by sentence. */
public final class StatementEdgesTest extends Asking {
    private static final int[] OUTSIDE = {LEAST, -2, -1, MOST};
    /** Two STATES, both ends; m leads from the first to the second, l looks at the first alone. */
    private static final String PAIR = "kind k s t;end k s t;call k m s t;look k l s;test k q s s t;var a k;var b k;";

    /** A text without choices is judged alike by CHECK, PATHS and RUNS. */
    private static void wrongIn(String text, int place, int reason) {
        HoldChecker x = loaded(text);
        gives(x, "refused: " + text, x.check(0), 0);
        gives(x, "the place of " + text, x.check(1), place);
        gives(x, "the reason of " + text, x.check(2), reason);
        gives(x, "the reason there of " + text, x.at(place, 0, 4), reason);
        gives(x, "one wrong one of " + text, x.paths(1), 1);
        gives(x, "the length of " + text, x.paths(2), place + 1);
        gives(x, "the path's reason of " + text, x.paths(3), reason);
        gives(x, "the path's end of " + text, x.path(place), place);
        boolean isEnd = place == x.many(2);
        runIs(x, 0, isEnd ? place : place + 1, reason, place);
    }

    private static void goesWrong(String program, int place, int reason) {
        wrongIn(FILE + program, place, reason);
    }

    private static void goesWell(String program) {
        HoldChecker x = file(program);
        gives(x, "accepted: " + program, x.check(0), 1);
        gives(x, "none is wrong of " + program, x.paths(1), 0);
        gives(x, "one comes to the end of " + program, x.paths(6), 1);
        gives(x, "a run comes to the end of " + program, x.run(0, 1), 0);
    }

    /** Without choices what may be is what must be. */
    private static void holds(HoldChecker x, int place, int v, int how, int states, int ones) {
        atIs(x, place, v, how, states, ones, ones);
        trulyIs(x, place, v, how, states, ones, ones);
    }

    private static void holdsNone(HoldChecker x, int place, int v) {
        holds(x, place, v, 1, 0, 0);
    }

    private static void waysOfHolding() {
        sentence("A VARIABLE HOLDS a thing of its KIND, or none: WHOLE (it alone does), SHARED, or to LOOK.");
        HoldChecker x = file("new a;move b a;share a b;lend c a;join a b;drop a;");
        int[][] ways = {{1, 1, 1}, {8, 1, 1}, {1, 8, 1}, {4, 4, 1}, {4, 4, 2}, {4, 1, 2}, {1, 1, 2}};
        for (int place = 0; place < ways.length; place++) {
            for (int v = 0; v < 3; v++) {
                atIs(x, place, v, ways[place][v]);
                trulyIs(x, place, v, ways[place][v]);
            }
        }
        HoldChecker kinds = loaded("kind k s;kind l s t;end l t;call l m s t;end k s;var a k;var b l;new a;new b;do b m;");
        holds(kinds, 3, 0, 8, 1, 0);
        holds(kinds, 3, 1, 8, 2, 0);
    }

    private static void news() {
        sentence("new: VAR must hold none; it HOLDS a new thing WHOLE, in the FIRST STATE.");
        goesWrong("new a;new a;", 1, 1);
        goesWrong("new a;share b a;new b;", 2, 1);
        goesWrong("new a;lend b a;new b;", 2, 1);
        goesWrong("new a;lend b a;new a;", 2, 1);
        goesWell("new a;drop a;new a;");
        goesWell("new a;move b a;new a;");
        goesWell("new a;new b;new c;");
        HoldChecker x = file("new a;do a begin;new b;");
        holdsNone(x, 0, 0);
        holds(x, 1, 0, 8, 1, 0);
        holds(x, 3, 0, 8, 2, 0);
        holds(x, 3, 1, 8, 1, 0);
    }

    private static void moves() {
        sentence("move A B: A must hold none, B one: A HOLDS that as B did, B none.");
        goesWrong("move a b;", 0, 1);
        goesWrong("new a;move a b;", 1, 1);
        goesWrong("new a;new b;move a b;", 2, 1);
        goesWrong("new b;lend a b;move a b;", 2, 1);
        goesWrong("new b;move a b;move c b;", 2, 1);
        goesWell("new b;move a b;move b a;");
        HoldChecker whole = file("new b;do b begin;move a b;");
        holds(whole, 3, 0, 8, 2, 0);
        holdsNone(whole, 3, 1);
        HoldChecker shared = file("new b;share c b;move a b;");
        holds(shared, 3, 0, 4, 1, 4);
        holdsNone(shared, 3, 1);
        holds(shared, 3, 2, 4, 1, 1);
        HoldChecker look = file("new b;lend c b;move a c;");
        holds(look, 3, 0, 2, 1, 2);
        holds(look, 3, 1, 2, 1, 1);
        holdsNone(look, 3, 2);
    }

    private static void shares() {
        sentence("share A B: A must hold none, B one, WHOLE or SHARED: both HOLD it SHARED.");
        goesWrong("share a b;", 0, 1);
        goesWrong("new a;share a b;", 1, 1);
        goesWrong("new a;new b;share a b;", 2, 1);
        goesWrong("new b;share a b;share a b;", 2, 1);
        goesWrong("new b;lend c b;share a c;", 2, 3);
        goesWrong("new b;lend c b;share a b;", 2, 3);
        goesWrong("new b;lend a b;share a b;", 2, 1);
        HoldChecker whole = file("new b;share a b;");
        holds(whole, 2, 0, 4, 1, 2);
        holds(whole, 2, 1, 4, 1, 1);
        HoldChecker shared = file("new b;share a b;share c b;");
        holds(shared, 3, 0, 4, 1, 6);
        holds(shared, 3, 1, 4, 1, 5);
        holds(shared, 3, 2, 4, 1, 3);
    }

    private static void lends() {
        sentence("lend A B: A must hold none, B one: A has it to LOOK, B, if it had it WHOLE, to LOOK, too.");
        goesWrong("lend a b;", 0, 1);
        goesWrong("new a;lend a b;", 1, 1);
        goesWrong("new a;new b;lend a b;", 2, 1);
        goesWrong("new b;lend a b;lend a b;", 2, 1);
        HoldChecker whole = file("new b;lend a b;");
        holds(whole, 2, 0, 2, 1, 2);
        holds(whole, 2, 1, 2, 1, 1);
        HoldChecker shared = file("new b;share c b;lend a b;");
        holds(shared, 3, 0, 2, 1, 6);
        holds(shared, 3, 1, 4, 1, 5);
        holds(shared, 3, 2, 4, 1, 3);
        HoldChecker look = file("new b;lend c b;lend a c;");
        holds(look, 3, 0, 2, 1, 6);
        holds(look, 3, 1, 2, 1, 5);
        holds(look, 3, 2, 2, 1, 3);
    }

    private static void joins() {
        sentence("join A B: both must hold one, the same thing: B holds none; then, if A alone HOLDS the thing, A HOLDS it"
            + " WHOLE.");
        goesWrong("join a b;", 0, 1);
        goesWrong("new a;join a b;", 1, 1);
        goesWrong("new b;join a b;", 1, 1);
        goesWrong("new a;new b;join a b;", 2, 2);
        goesWrong("new a;share b a;new c;join a c;", 3, 2);
        goesWrong("new a;share b a;join a b;join a b;", 3, 1);
        String[] alone = {"new a;share b a;", "new a;lend b a;", "new a;share b a;share c a;drop c;",
            "new a;share c a;lend b a;drop c;"};
        for (String ahead : alone) {
            HoldChecker x = file(ahead + "join a b;");
            int end = x.many(2);
            holds(x, end, 0, 8, 1, 0);
            holdsNone(x, end, 1);
            HoldChecker y = file(ahead + "join b a;");
            holds(y, end, 1, 8, 1, 0);
            holdsNone(y, end, 0);
        }
        HoldChecker shared = file("new a;share b a;share c a;join a b;");
        holds(shared, 4, 0, 4, 1, 4);
        holds(shared, 4, 2, 4, 1, 1);
        HoldChecker look = file("new a;lend b a;lend c a;join b a;");
        holds(look, 4, 1, 2, 1, 4);
        holds(look, 4, 2, 2, 1, 2);
        HoldChecker lookOfShared = file("new a;share b a;lend c a;join c b;");
        holds(lookOfShared, 4, 0, 4, 1, 4);
        holds(lookOfShared, 4, 2, 2, 1, 1);
        HoldChecker states = file("new a;share b a;do b begin;join a b;");
        holds(states, 4, 0, 8, 2, 0);
    }

    private static void drops() {
        sentence("drop: VAR must hold one: it holds none; then, if one VARIABLE alone HOLDS that thing, it has it as"
            + " before.");
        goesWrong("drop a;", 0, 1);
        goesWrong("new a;drop a;drop a;", 2, 1);
        goesWrong("new a;move b a;drop a;", 2, 1);
        HoldChecker shared = file("new a;share b a;drop b;");
        holds(shared, 3, 0, 4, 1, 0);
        holdsNone(shared, 3, 1);
        HoldChecker look = file("new a;lend b a;drop a;");
        holds(look, 3, 1, 2, 1, 0);
        holdsNone(look, 3, 0);
        goesWrong("new a;lend b a;drop b;do a begin;", 3, 3);
        HoldChecker two = file("new a;share b a;lend c a;drop b;");
        holds(two, 4, 0, 4, 1, 4);
        holds(two, 4, 2, 2, 1, 1);
        sentence("(One that nobody HOLDS any more is LEFT; its STATE must be an end.)");
        goesWrong("new a;do a begin;drop a;", 2, 5);
        goesWrong("new a;do a begin;share b a;drop a;drop b;", 4, 5);
        goesWrong("new a;do a begin;lend b a;drop a;drop b;", 4, 5);
        goesWell("new a;do a begin;share b a;drop b;do a close;drop a;");
        goesWell("new a;drop a;");
        HoldChecker left = file("new a;share b a;do b begin;drop b;do a close;drop a;");
        gives(left, "left once, shut", left.left(0), 1);
    }

    private static void asks() {
        sentence("do, if, while: VAR must hold a thing, WHOLE or SHARED, but for a LOOK (any way); its STATE must be one in"
            + " which the METHOD can be.");
        String[] asking = {"do a begin;", "do a size;", "if a more{}", "while a more{}"};
        for (String one : asking) {
            goesWrong(one, 0, 1);
            goesWrong("new a;drop a;" + one, 2, 1);
        }
        goesWell("new a;do a begin;do a close;");
        goesWell("new a;share b a;do b begin;do a close;");
        goesWrong("new a;lend b a;do b begin;", 2, 3);
        goesWrong("new a;lend b a;do a begin;", 2, 3);
        goesWrong("new a;do a begin;lend b a;if b more{}", 3, 3);
        goesWrong("new a;do a begin;lend b a;while a more{}", 3, 3);
        goesWell("new a;do a size;");
        goesWell("new a;share b a;do a size;do b size;");
        goesWell("new a;lend b a;do a size;do b size;");
        goesWrong("new a;do a close;", 1, 4);
        goesWrong("new a;do a begin;do a begin;", 2, 4);
        goesWrong("new a;if a more{}", 1, 4);
        goesWrong("new a;while a more{}", 1, 4);
        wrongIn(PAIR + "new a;do a m;do a l;", 2, 4);
        wrongIn(PAIR + "new a;do a m;lend b a;do b l;", 3, 4);
        wrongIn(PAIR + "new a;do a m;if a q{}", 2, 4);
        goesWrong("new a;do a begin;lend b a;do b begin;", 3, 3);
        HoldChecker all = file("new a;share b a;lend c b;do a begin;");
        for (int v = 0; v < 3; v++) {
            holds(all, 4, v, v == 2 ? 2 : 4, 2, 7 & ~(1 << v));
        }
        HoldChecker other = file("new a;new b;do a begin;");
        holds(other, 3, 1, 8, 1, 0);
    }

    private static void choices() {
        sentence("if: the first BLOCK by yes, the other (or nothing) by no; while: the BLOCK, then again, by yes; on by no.");
        HoldChecker both = file("new a;do a begin;if a more{do a read;}else{new b;}");
        trulyIs(both, 3, 0, 8, 2);
        trulyIs(both, 4, 0, 8, 1);
        trulyIs(both, 5, 0, 8, 3);
        trulyIs(both, 5, 1, 9, 1);
        HoldChecker one = file("new a;do a begin;if a more{do a close;}");
        trulyIs(one, 3, 0, 8, 2);
        trulyIs(one, 4, 0, 8, 1);
        gives(one, "either way comes to the end", one.paths(6), 1);
        HoldChecker other = file("new a;do a begin;if a more{}else{do a begin;}do a close;");
        trulyIs(other, 3, 0, 8, 1);
        trulyIs(other, 4, 0, 8, 2);
        HoldChecker round = file("new a;do a begin;while a more{do a read;}");
        trulyIs(round, 2, 0, 8, 2);
        trulyIs(round, 3, 0, 8, 2);
        trulyIs(round, 4, 0, 8, 1);
        HoldChecker empty = file("new a;do a begin;while a more{}");
        trulyIs(empty, 2, 0, 8, 2);
        trulyIs(empty, 3, 0, 8, 1);
        sentence("maybe: one of both (or nothing); loop: the BLOCK any number of times.");
        HoldChecker maybe = file("maybe{new a;}else{new b;}");
        gives(maybe, "two ways", maybe.paths(6), 2);
        trulyIs(maybe, 3, 0, 9, 1);
        trulyIs(maybe, 3, 1, 9, 1);
        HoldChecker nothing = file("maybe{new a;}");
        gives(nothing, "once or not", nothing.paths(6), 2);
        HoldChecker onlyElse = file("maybe{}else{new a;}");
        gives(onlyElse, "not or once", onlyElse.paths(6), 2);
        HoldChecker neither = file("maybe{}else{}");
        gives(neither, "nothing either way", neither.paths(0), 2);
        HoldChecker loop = loaded("kind k a b c d e f;end k a b c d e f;call k n a b;call k n b c;call k n c d;call k n d e;"
            + "call k n e f;call k n f f;var x k;new x;loop{do x n;}");
        trulyIs(loop, 3, 0, 8, 63);
        gives(loop, "none, once, .. five times", loop.paths(6), 6);
        gives(loop, "none: the first draw of seed 1 is odd", loop.run(1, 0), 2);
        HoldChecker still = loaded("loop{}");
        gives(still, "nothing any number of times", still.paths(0), 2);
    }

    private static void wrongs() {
        sentence("WRONG is a STATEMENT: 1 a VARIABLE holds none that must, or one that must not, 2 another thing, 3 not as"
            + " it must, 4 in a STATE that can't be, 5 a thing is LEFT (by drop) in no end.");
        goesWrong("new a;join a b;", 1, 1);
        goesWrong("new a;new a;", 1, 1);
        goesWrong("new a;new b;join b a;", 2, 2);
        goesWrong("new a;lend b a;share c a;", 2, 3);
        goesWrong("new a;do a read;", 1, 4);
        goesWrong("new a;do a begin;drop a;", 2, 5);
        sentence("At the end of the program all things HELD are LEFT: WRONG 5 at the end (numbered as many as STATEMENTS"
            + " are).");
        goesWrong("new a;do a begin;", 2, 5);
        goesWrong("new a;new b;do b begin;", 3, 5);
        goesWrong("new a;do a begin;lend b a;drop a;", 4, 5);
        goesWrong("new a;do a begin;share b a;", 3, 5);
        goesWell("new a;");
        goesWell("");
        wrongIn("kind k s;var a k;new a;", 1, 5);
        wrongIn("kind k s;kind l s;end l s;var a l;var b k;new a;new b;", 2, 5);
        HoldChecker x = file("new a;new b;do b begin;do b close;");
        gives(x, "left shut", x.left(0), 1);
    }

    private static void places() {
        sentence("PLACES: ahead of a STATEMENT, and the end. Behind the last STATEMENT of a BLOCK: behind the whole one (of"
            + " while, loop: ahead of it again).");
        HoldChecker x = file("maybe{new a;new b;}else{drop a;}loop{new a;drop a;}while a more{do a read;}if a more{new b;}");
        statementIs(x, 1, 0, 0, NONE, NONE, 2, NONE, 1);
        statementIs(x, 2, 0, 1, NONE, NONE, 4, NONE, 1);
        statementIs(x, 3, 5, 0, NONE, NONE, 4, NONE, 1);
        statementIs(x, 5, 0, 0, NONE, NONE, 6, NONE, 1);
        statementIs(x, 6, 5, 0, NONE, NONE, 4, NONE, 1);
        statementIs(x, 8, 6, 0, NONE, 2, 7, NONE, 1);
        statementIs(x, 10, 0, 1, NONE, NONE, 11, NONE, 1);
        HoldChecker deep = loaded("loop{maybe{maybe{maybe{loop{}}}}}");
        statementIs(deep, 4, 10, NONE, NONE, NONE, 4, 0, 4);
        statementIs(deep, 3, 9, NONE, NONE, NONE, 4, 0, 3);
        HoldChecker out = loaded("maybe{maybe{maybe{maybe{maybe{}}}}}");
        statementIs(out, 4, 9, NONE, NONE, NONE, 5, 5, 4);
        statementIs(out, 0, 9, NONE, NONE, NONE, 1, 5, 0);
        HoldChecker inner = loaded("loop{maybe{}else{loop{maybe{}}}}");
        statementIs(inner, 3, 9, NONE, NONE, NONE, 2, 2, 3);
        statementIs(inner, 2, 10, NONE, NONE, NONE, 3, 0, 2);
        statementIs(inner, 1, 9, NONE, NONE, NONE, 0, 2, 1);
        gives(inner, "the end is a place", inner.check(4), 5);
    }

    private static void statements() {
        sentence("Of a STATEMENT, what 0: its sort (0 new, 1 move, 2 share, 3 lend, 4 join, 5 drop, 6 do, 7 if, 8 while, 9"
            + " maybe, 10 loop), 1: VAR (NONE: none), 2: the other VAR (NONE), 3: METHOD (NONE)");
        HoldChecker x = file("new c;move b c;share a c;lend c b;join b a;drop b;do c size;if a more{}while b more{}maybe{}"
            + "loop{}");
        statementIs(x, 0, 0, 2, NONE, NONE);
        statementIs(x, 1, 1, 1, 2, NONE);
        statementIs(x, 2, 2, 0, 2, NONE);
        statementIs(x, 3, 3, 2, 1, NONE);
        statementIs(x, 4, 4, 1, 0, NONE);
        statementIs(x, 5, 5, 1, NONE, NONE);
        statementIs(x, 6, 6, 2, NONE, 4);
        statementIs(x, 7, 7, 0, NONE, 3);
        statementIs(x, 8, 8, 1, NONE, 3);
        statementIs(x, 9, 9, NONE, NONE, NONE);
        statementIs(x, 10, 10, NONE, NONE, NONE);
        sentence("4: the PLACE by yes (into the BLOCK; else the next one), 5: by no (NONE: no choice), 6: in how many"
            + " others it is (1; 2); STATUS tells NONE from -1.");
        HoldChecker most = loaded(times(39, "loop{}") + "maybe{}");
        statementIs(most, 39, 9, NONE, NONE, NONE, 40, 40, 0);
        statementIs(most, 38, 10, NONE, NONE, NONE, 38, 39, 0);
        HoldChecker y = file("new a;if a more{new b;}else{}drop b;maybe{}else{new c;}while a more{drop c;}");
        statementIs(y, 0, 0, 0, NONE, NONE, 1, NONE, 0);
        statementIs(y, 1, 7, 0, NONE, 3, 2, 3, 0);
        statementIs(y, 2, 0, 1, NONE, NONE, 3, NONE, 1);
        statementIs(y, 4, 9, NONE, NONE, NONE, 6, 5, 0);
        statementIs(y, 6, 8, 0, NONE, 3, 7, 8, 0);
        statementIs(y, 7, 5, 2, NONE, NONE, 6, NONE, 1);
        for (int number : OUTSIDE) {
            refuses(y, "what " + number, y.statement(0, number), 1);
            refuses(y, "both " + number, y.statement(number, number), 1);
            refuses(y, "statement " + number, y.statement(number, 0), 2);
        }
        refuses(y, "what 7", y.statement(0, 7), 1);
        refuses(y, "what 7 of none", y.statement(8, 7), 1);
        refuses(y, "statement 8: the end is none", y.statement(8, 0), 2);
        refuses(most, "statement 40", most.statement(40, 6), 2);
        HoldChecker none = new HoldChecker();
        refuses(none, "statement 0 of none", none.statement(0, 0), 2);
    }

    private static void variables() {
        sentence("The KIND of a VARIABLE (2).");
        HoldChecker x = loaded("kind k a;kind l a;kind m a;kind n a;var u n;var v k;var w l;var x m;var y n;var z k;");
        int[] due = {3, 0, 1, 2, 3, 0};
        for (int v = 0; v < 6; v++) {
            gives(x, "variable " + v, x.variable(v), due[v]);
        }
        for (int number : OUTSIDE) {
            refuses(x, "variable " + number, x.variable(number), 2);
        }
        refuses(x, "variable 6", x.variable(6), 2);
        HoldChecker one = loaded("kind k a;var v k;");
        refuses(one, "variable 1", one.variable(1), 2);
        HoldChecker none = new HoldChecker();
        refuses(none, "variable 0 of none", none.variable(0), 2);
    }

    public static void main(String[] args) {
        waysOfHolding();
        news();
        moves();
        shares();
        lends();
        joins();
        drops();
        asks();
        choices();
        wrongs();
        places();
        statements();
        variables();
        finish("edges of statements");
    }
}
