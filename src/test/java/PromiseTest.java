import java.math.BigInteger;

/** Promise by promise: ordinary inputs, the edges that the document names, and wrong inputs. */
public final class PromiseTest extends Asking {
    private static final int[] EXTREMES = {Integer.MIN_VALUE, -2, -1, 7, 41, 1000, Integer.MAX_VALUE};

    private static void promise1() {
        HoldChecker x = new HoldChecker();
        due("status", x.status(), 0);
        gives(x, "many 0", x.many(0), 0);
        gives(x, "many 1", x.many(1), 0);
        gives(x, "many 2", x.many(2), 0);
        gives(x, "check 0", x.check(0), 1);
        gives(x, "check 4", x.check(4), 1);
        gives(x, "paths 0", x.paths(0), 1);
        gives(x, "paths 6", x.paths(6), 1);
        gives(x, "run", x.run(65536, 1), 0);
        refuses(x, "at", x.at(0, 0, 0), 2);
        refuses(x, "truly", x.truly(0, 0, 0), 2);
        refuses(x, "left", x.left(0), 2);
    }

    private static void promise2() {
        HoldChecker x = new HoldChecker();
        x.many(3);
        due("status of many 3", x.status(), 1);
        due("status again", x.status(), 1);
        x.feed(0, 0, 0, 0, 0);
        x.fault(5);
        due("status, feed and fault have none", x.status(), 1);
        x.variable(0);
        due("status of variable", x.status(), 2);
        x.many(1);
        due("status of many 1", x.status(), 0);
    }

    private static void promise3() {
        HoldChecker x = new HoldChecker();
        for (int i = 1; i <= 45; i++) {
            due("feed " + i, x.feed(0x20202020, 0x20202020, 0x20202020, 0x20202020, 0x20202020), 20 * i);
        }
        due("feed above 900", x.feed(1, 2, 3, 4, 5), NONE);
        due("status", x.status(), 0);
        gives(x, "load of all", x.load(900), 0);
        due("feed behind load", x.feed(0x6b696e64, 0x20610a62, 0x3b202020, 0x20202020, 0x20202020), 20);
        gives(x, "load, the highest byte first", x.load(9), 0);
        gives(x, "many", x.many(0), 1);
        x.feed(0x80000000, -1, 0, 0, 0);
        refuses(x, "load of high bytes", x.load(8), 9);
        due("fault", x.fault(0), 1);
        due("its place", x.fault(1), 0);
    }

    private static void promise4() {
        HoldChecker x = file("new a;drop a;");
        gives(x, "many", x.many(2), 2);
        feed(x, "kind z y;loop{}");
        refuses(x, "load below 0", x.load(-1), 1);
        refuses(x, "load above the tape", x.load(21), 1);
        refuses(x, "load of the most", x.load(Integer.MAX_VALUE), 1);
        refuses(x, "load of the least", x.load(Integer.MIN_VALUE), 1);
        due("no fault by status 1", x.fault(0), 0);
        due("the tape stays by status 1", x.feed(0, 0, 0, 0, 0), 40);
        gives(x, "load", x.load(20), 1);
        gives(x, "kinds", x.many(0), 1);
        refuses(x, "the tape is empty then", x.load(1), 1);
        feed(x, "loop{");
        refuses(x, "load of a fault", x.load(5), 9);
        due("the tape is empty by status 9", x.feed(0, 0, 0, 0, 0), 20);
        gives(x, "what was loaded stays", x.many(2), 1);
        gives(x, "its kinds, too", x.kind(0, 0), 1);
        gives(x, "load of nothing", x.load(0), 0);
        gives(x, "nothing is there then", x.many(0), 0);
    }

    private static void promise5() {
        HoldChecker x = new HoldChecker();
        due("ahead of any, 0", x.fault(0), NONE);
        due("ahead of any, 1", x.fault(1), NONE);
        x.load(3);
        due("behind a load with status 1", x.fault(0), NONE);
        x.load(0);
        due("without one", x.fault(0), 0);
        due("place without one", x.fault(1), NONE);
        for (int what : EXTREMES) {
            due("fault " + what, x.fault(what), NONE);
        }
        due("fault 2", x.fault(2), NONE);
        feed(x, "loop{");
        x.load(5);
        due("of the latest load", x.fault(0), 2);
        x.load(9);
        due("status 1 doesn't count", x.fault(1), 5);
        x.load(0);
        due("without one again", x.fault(0), 0);
        due("place without one again", x.fault(1), NONE);
        faultsOfTokens();
        faultsOfNames();
        faultsOfNumbers();
        String same = "kind a a b\n; \n end a b b;end a b;call a a a b;kind b a;call b a a a;var a b;new a;do a a;";
        due("names of other sorts may be alike", loaded(same).many(2), 2);
        loaded("kind abcdefgh kinds;var ends abcdefgh;new ends;");
    }

    private static void faultsOfTokens() {
        faulty(1, "^A");
        faulty(1, "kind a ^1;");
        faulty(1, "^\tkind a b;");
        faulty(1, "kind a b^" + (char) 13 + ";");
        faulty(1, "kind a b;^" + (char) 233);
        faulty(1, "kind ^abcdefghi b;");
        faulty(1, "loop{}^_");
        faulty(1, "kind a b^:");
        faulty(2, "^a");
        faulty(2, "^;");
        faulty(2, "^{");
        faulty(2, "^}");
        faulty(2, "^else{}");
        faulty(2, "kind ^;");
        faulty(2, "kind ^end b;");
        faulty(2, "kind a ^;");
        faulty(2, "kind a ^loop;");
        faulty(2, "kind a b^{");
        faulty(2, "kind a b^");
        faulty(2, "kind a b  \n^");
        faulty(2, "kind a b;end a^;");
        faulty(2, "kind a b;call ^;");
        faulty(2, "kind a b;call a ^;");
        faulty(2, "kind a b;call a ^new b b;");
        faulty(2, "kind a b;call a m b^;");
        faulty(2, "kind a b;test a m b b^;");
        faulty(2, "kind a b;look a m b ^b;");
        faulty(2, "kind a b;var x a;new x;^kind c d;");
        faulty(2, "loop{}^var x a;");
        faulty(2, "loop{^kind a b;}");
        faulty(2, "loop ^;");
        faulty(2, "loop{^");
        faulty(2, "loop{}^}");
        faulty(2, "loop{}^else{}");
        faulty(2, "maybe{}else{}^else{}");
        faulty(2, "maybe{}else ^;");
        faulty(2, "loop{}^;");
        faulty(2, "maybe{^else{}}");
    }

    private static void faultsOfNames() {
        String two = "kind a b;kind c d;var x a;var y a;var z c;";
        faulty(3, "end ^a b;");
        faulty(3, "kind a b;end a ^c;");
        faulty(3, "kind a b;kind c d;end a ^d;");
        faulty(3, "kind a b;call a m ^c b;");
        faulty(3, "kind a b;call a m b ^c;");
        faulty(3, "kind a b;test a m b b ^c;");
        faulty(3, "kind a b;look ^c m b;");
        faulty(3, "kind a b;var x ^c;");
        faulty(3, "kind a b;var x ^x;");
        faulty(3, "new ^x;");
        faulty(3, two + "move x ^v;");
        faulty(3, two + "do x ^m;");
        faulty(3, "kind a b;kind c d;call c m d d;var x a;do x ^m;");
        faulty(3, "kind a b;new ^x B");
        faulty(4, "kind a b;kind ^a c;");
        faulty(4, "kind a b ^b;");
        faulty(4, "kind a b;var x a;var ^x c;");
        faulty(4, "kind a b c;call a m b c;call a m ^b b;");
        faulty(4, "kind a b;look a m b;look a m ^b;");
        faulty(5, "kind a b;call a m b b;test a ^m b b b;");
        faulty(5, "kind a b;call a m b b;look a ^m c;");
        faulty(5, "kind a b;test a m b b b;var x a;do x ^m;");
        faulty(5, "kind a b;call a m b b;var x a;if x ^m{}");
        faulty(5, "kind a b;look a m b;var x a;while x ^m{}");
        faulty(5, two + "move x ^x;");
        faulty(5, two + "share x ^z;");
        faulty(5, two + "lend y ^y;");
        faulty(5, two + "join z ^x;");
    }

    private static void faultsOfNumbers() {
        String four = "kind a b;kind c b;kind d b;kind e b;";
        loaded(four);
        faulty(6, four + "^kind a b;");
        faulty(6, "kind a b c d e f g ^h;");
        faulty(4, "kind a b c d e f g ^g;");
        String six = "kind a b;call a m b b;call a n b b;call a o b b;call a p b b;look a q b;test a r b b b;";
        due("six methods", loaded(six).kind(0, 1), 6);
        faulty(6, six + "call a ^s b b;");
        faulty(5, six + "call a ^q b b;");
        String variables = "kind k s;var a k;var b k;var c k;var d k;var e k;var f k;";
        loaded(variables);
        faulty(6, variables + "^var a k;");
        due("forty statements", loaded(times(40, "loop{}")).many(2), 40);
        faulty(6, times(40, "loop{}") + "^maybe{}");
        faulty(2, times(40, "loop{}") + "^kind a b;");
        faulty(6, "loop{" + times(39, "maybe{}") + "^loop{}}");
        due("five in one another", loaded("loop{maybe{loop{maybe{loop{}}}}}").statement(4, 6), 4);
        faulty(6, "loop{maybe{}else{loop{maybe{loop{^new x;}}}}}");
    }

    private static void promise6() {
        HoldChecker x = loaded("kind a b;kind c d e;var x c;new x;loop{maybe{}}");
        gives(x, "many 0", x.many(0), 2);
        gives(x, "many 1", x.many(1), 1);
        gives(x, "many 2, those within others too", x.many(2), 3);
        refuses(x, "many -1", x.many(-1), 1);
        refuses(x, "many 3", x.many(3), 1);
    }

    private static void promise7() {
        HoldChecker x = loaded("kind k a b c d;end k b;call k go a b;call k fall a c;look k see d;"
            + "kind l a b;test l t a a b;var v l;var w l;var u k;");
        int[] due = {4, 3, 2, 1, 7, 4};
        for (int what = 0; what < 6; what++) {
            gives(x, "kind 0 " + what, x.kind(0, what), due[what]);
        }
        HoldChecker byYes = loaded("kind k a b c;test k t a b a;call k go b c;");
        gives(byYes, "by a test's yes, and on", byYes.kind(0, 4), 7);
        int[] dueOther = {2, 1, 0, 2, 3, 3};
        for (int what = 0; what < 6; what++) {
            gives(x, "kind 1 " + what, x.kind(1, what), dueOther[what]);
        }
        refuses(x, "what below", x.kind(0, -1), 1);
        refuses(x, "what above", x.kind(0, 6), 1);
        refuses(x, "what first", x.kind(9, 6), 1);
        refuses(x, "no kind -1", x.kind(-1, 0), 2);
        refuses(x, "no kind 2", x.kind(2, 0), 2);
    }

    private static void promise8() {
        HoldChecker x = file("");
        int[] sorts = {0, 0, 0, 1, 2};
        int[] states = {1, 2, 2, 2, 3};
        for (int m = 0; m < 5; m++) {
            gives(x, "sort of " + m, x.method(0, m, 0), sorts[m]);
            gives(x, "states of " + m, x.method(0, m, 1), states[m]);
        }
        refuses(x, "what above", x.method(0, 9, 2), 1);
        refuses(x, "what below", x.method(0, 0, -1), 1);
        refuses(x, "no method 5", x.method(0, 5, 0), 2);
        refuses(x, "no method -1", x.method(0, -1, 0), 2);
        refuses(x, "no kind", x.method(1, 0, 0), 2);
    }

    private static void promise9() {
        HoldChecker x = file("");
        gives(x, "a call by yes", x.comes(0, 0, 0, true), 1);
        gives(x, "a call by no", x.comes(0, 0, 0, false), 1);
        gives(x, "a test by yes", x.comes(0, 3, 1, true), 1);
        gives(x, "a test by no", x.comes(0, 3, 1, false), 0);
        gives(x, "a look", x.comes(0, 4, 1, false), 1);
        refuses(x, "it can't be there", x.comes(0, 0, 1, true), 5);
        refuses(x, "no state 3", x.comes(0, 0, 3, true), 2);
        refuses(x, "no state -1", x.comes(0, 0, -1, true), 2);
        refuses(x, "no method", x.comes(0, 5, 0, true), 2);
        refuses(x, "no kind", x.comes(1, 0, 0, true), 2);
    }

    private static void promise10() {
        HoldChecker x = file("new a;do a begin;do a close;drop a;");
        refuses(x, "to below NONE", x.tell(9, 0, 0, true, -2), 1);
        refuses(x, "no kind", x.tell(1, 0, 0, true, 0), 2);
        refuses(x, "no method", x.tell(0, 5, 0, true, 0), 2);
        refuses(x, "no state", x.tell(0, 0, 3, true, 0), 2);
        refuses(x, "no state to come", x.tell(0, 0, 0, true, 3), 2);
        refuses(x, "so already", x.tell(0, 0, 0, false, 1), 4);
        refuses(x, "can't be already", x.tell(0, 0, 1, true, NONE), 4);
        gives(x, "a call, told by no", x.tell(0, 0, 0, false, 2), 1);
        gives(x, "changes by yes too", x.comes(0, 0, 0, true), 2);
        gives(x, "check sees it", x.check(2), 4);
        gives(x, "paths see it", x.paths(3), 4);
        gives(x, "runs see it", x.run(0, 1), 4);
        gives(x, "a call where it couldn't be", x.tell(0, 0, 1, true, 0), NONE);
        gives(x, "it can be there now", x.comes(0, 0, 1, false), 0);
        gives(x, "a test by no alone", x.tell(0, 3, 1, false, 2), 0);
        gives(x, "by yes as before", x.comes(0, 3, 1, true), 1);
        gives(x, "by no", x.comes(0, 3, 1, false), 2);
        refuses(x, "so already by no", x.tell(0, 3, 1, false, 2), 4);
        gives(x, "a test by yes alone", x.tell(0, 3, 1, true, 0), 1);
        gives(x, "by no as before", x.comes(0, 3, 1, false), 2);
        gives(x, "and back", x.tell(0, 3, 1, true, 1), 0);
        gives(x, "a test that can't be there", x.tell(0, 3, 2, false, 1), NONE);
        gives(x, "both become it", x.comes(0, 3, 2, true), 1);
        gives(x, "a test taken away by yes", x.tell(0, 3, 1, true, NONE), 1);
        refuses(x, "by none of both", x.comes(0, 3, 1, false), 5);
        refuses(x, "a look that moves", x.tell(0, 4, 0, true, 1), 5);
        refuses(x, "a look that moves where it can't be", x.tell(0, 4, 2, true, 1), 5);
        refuses(x, "a look where it is", x.tell(0, 4, 0, true, 0), 4);
        gives(x, "a look taken away", x.tell(0, 4, 0, true, NONE), 0);
        gives(x, "a look given", x.tell(0, 4, 2, true, 2), NONE);
        gives(x, "states of the look", x.method(0, 4, 1), 6);
        gives(x, "what was told stays refused", x.check(0), 0);
        gives(x, "told back", x.tell(0, 0, 0, true, 1), 2);
        gives(x, "accepted again", x.check(0), 1);
        gives(x, "no path is wrong again", x.paths(1), 0);
        gives(x, "without, behind tell", x.without(1), 0);
    }

    private static void promise11() {
        HoldChecker x = loaded("kind k a b c d e f;end k f;call k far a b;call k go b c;test k t a a d;"
            + "call k on c f;call k on d f;look k see e;call k on f f;");
        gives(x, "from a, by the test's no", x.toEnd(0, 0), 2);
        gives(x, "from b", x.toEnd(0, 1), 2);
        gives(x, "from c", x.toEnd(0, 2), 1);
        gives(x, "an end", x.toEnd(0, 5), 0);
        refuses(x, "from e, a look leads nowhere", x.toEnd(0, 4), 5);
        refuses(x, "no state", x.toEnd(0, 6), 2);
        refuses(x, "no state -1", x.toEnd(0, -1), 2);
        refuses(x, "no kind", x.toEnd(1, 0), 2);
    }

    private static void promise12() {
        HoldChecker x = loaded("kind k a b c d;end k d;call k far a b;call k on b d;test k t a c b;call k two a b;"
            + "call k on c c;");
        gives(x, "the least of several", x.towards(0, 0), 0);
        gives(x, "from b", x.towards(0, 1), 1);
        refuses(x, "none", x.towards(0, 2), 5);
        refuses(x, "an end", x.towards(0, 3), 5);
        refuses(x, "no state", x.towards(0, 4), 2);
        refuses(x, "no state -1", x.towards(0, -1), 2);
        refuses(x, "no kind", x.towards(1, 0), 2);
        x.tell(0, 0, 0, true, NONE);
        gives(x, "by the test's no", x.towards(0, 0), 2);
        HoldChecker y = loaded("kind k a b c d e f;end k f;test k t a b a;call k go b c;call k go c d;call k go d e;"
            + "call k go e f;");
        gives(y, "by the test's yes", y.towards(0, 0), 0);
        gives(y, "the longest way", y.toEnd(0, 0), 5);
    }

    private static void promise13() {
        HoldChecker x = loaded("kind k a b c d e f;end k e f;call k go a b;call k go b a;call k go c d;call k go d e;"
            + "test k t e e f;test k t f f e;");
        gives(x, "round about", x.alike(0, 0, 1), 1);
        gives(x, "itself", x.alike(0, 3, 3), 1);
        gives(x, "what comes differs", x.alike(0, 0, 2), 0);
        gives(x, "what comes differs later", x.alike(0, 2, 3), 0);
        gives(x, "ends with a test", x.alike(0, 4, 5), 1);
        gives(x, "an end and none", x.alike(0, 0, 4), 0);
        x.tell(0, 1, 5, false, 0);
        gives(x, "by no it differs", x.alike(0, 4, 5), 0);
        refuses(x, "no state", x.alike(0, 0, 6), 2);
        refuses(x, "no state -1", x.alike(0, -1, 0), 2);
        refuses(x, "no kind", x.alike(-1, 0, 0), 2);
        x.tell(0, 1, 5, false, 4);
        x.tell(0, 1, 5, true, 3);
        gives(x, "by yes it differs", x.alike(0, 4, 5), 0);
        HoldChecker y = loaded("kind k a b c;look k see a;look k see b;");
        gives(y, "a look in both", y.alike(0, 0, 1), 1);
        gives(y, "a look in one", y.alike(0, 0, 2), 0);
    }

    private static void promise14() {
        HoldChecker x = file("");
        int[] any = {1, 2, 7};
        int[] ended = {1, 1, 3};
        for (int n = 0; n < 3; n++) {
            gives(x, "rows of " + n, x.rows(0, n, false), any[n]);
            gives(x, "rows of " + n + " to an end", x.rows(0, n, true), ended[n]);
        }
        refuses(x, "n below", x.rows(0, -1, false), 1);
        refuses(x, "n above", x.rows(7, 13, false), 1);
        refuses(x, "no kind", x.rows(1, 12, false), 2);
        HoldChecker y = loaded("kind k a;test k m a a a;test k n a a a;test k o a a a;test k p a a a;test k q a a a;"
            + "test k r a a a;");
        for (int n = 0; n <= 12; n++) {
            BigInteger all = BigInteger.valueOf(12).pow(n).mod(BigInteger.valueOf(1000000007));
            gives(y, "all rows of " + n, y.rows(0, n, false), all.intValue());
            gives(y, "none to an end of " + n, y.rows(0, n, true), 0);
        }
    }

    private static void promise15() {
        HoldChecker x = file("new a;move b a;share c b;lend a b;join b a;drop c;do b size;");
        statementIs(x, 0, 0, 0, NONE, NONE, 1, NONE, 0);
        statementIs(x, 1, 1, 1, 0, NONE, 2, NONE, 0);
        statementIs(x, 2, 2, 2, 1, NONE, 3, NONE, 0);
        statementIs(x, 3, 3, 0, 1, NONE, 4, NONE, 0);
        statementIs(x, 4, 4, 1, 0, NONE, 5, NONE, 0);
        statementIs(x, 5, 5, 2, NONE, NONE, 6, NONE, 0);
        statementIs(x, 6, 6, 1, NONE, 4, 7, NONE, 0);
        HoldChecker y = file("while a more{if b more{loop{new c;}}else{maybe{}else{drop c;}}}loop{}maybe{}if a more{}"
            + "while a more{}");
        statementIs(y, 0, 8, 0, NONE, 3, 1, 6, 0);
        statementIs(y, 1, 7, 1, NONE, 3, 2, 4, 1);
        statementIs(y, 2, 10, NONE, NONE, NONE, 3, 0, 2);
        statementIs(y, 3, 0, 2, NONE, NONE, 2, NONE, 3);
        statementIs(y, 4, 9, NONE, NONE, NONE, 0, 5, 2);
        statementIs(y, 5, 5, 2, NONE, NONE, 0, NONE, 3);
        statementIs(y, 6, 10, NONE, NONE, NONE, 6, 7, 0);
        statementIs(y, 7, 9, NONE, NONE, NONE, 8, 8, 0);
        statementIs(y, 8, 7, 0, NONE, 3, 9, 9, 0);
        statementIs(y, 9, 8, 0, NONE, 3, 9, 10, 0);
        refuses(y, "what below", y.statement(0, -1), 1);
        refuses(y, "what above", y.statement(99, 7), 1);
        refuses(y, "no statement 10", y.statement(10, 0), 2);
        refuses(y, "no statement -1", y.statement(-1, 0), 2);
    }

    private static void promise16() {
        HoldChecker x = loaded("kind k a;kind l a;var x l;var y k;");
        gives(x, "variable 0", x.variable(0), 1);
        gives(x, "variable 1", x.variable(1), 0);
        refuses(x, "no variable 2", x.variable(2), 2);
        refuses(x, "no variable -1", x.variable(-1), 2);
    }

    private static void refused(String program, int place, int reason) {
        HoldChecker x = file(program);
        gives(x, "check 0 of " + program, x.check(0), 0);
        gives(x, "check 1 of " + program, x.check(1), place);
        gives(x, "check 2 of " + program, x.check(2), reason);
    }

    private static void promise17() {
        HoldChecker x = file("new a;do a begin;loop{do a read;}do a close;");
        gives(x, "accepted", x.check(0), 1);
        refuses(x, "no place", x.check(1), 5);
        refuses(x, "no reason", x.check(2), 5);
        gives(x, "wrong places", x.check(3), 0);
        gives(x, "places that can come", x.check(4), 6);
        refuses(x, "what below", x.check(-1), 1);
        refuses(x, "what above", x.check(5), 1);
        refused("new a;new a;", 1, 1);
        refused("new a;new b;move a b;", 2, 1);
        refused("move a b;", 0, 1);
        refused("share a b;", 0, 1);
        refused("lend a b;", 0, 1);
        refused("new a;join a b;", 1, 1);
        refused("new a;join b a;", 1, 1);
        refused("drop a;", 0, 1);
        refused("do a size;", 0, 1);
        refused("if a more{}", 0, 1);
        refused("while a more{}", 0, 1);
        refused("new a;new b;join a b;", 2, 2);
        refused("new a;lend b a;share c b;", 2, 3);
        refused("new a;lend b a;do b begin;", 2, 3);
        refused("new a;do a begin;lend b a;while a more{}", 3, 3);
        refused("new a;do a close;", 1, 4);
        refused("new a;if a more{}", 1, 4);
        refused("new a;do a begin;drop a;", 2, 5);
        refused("new a;do a begin;", 2, 5);
        refused("new a;maybe{drop a;}drop a;", 3, 1);
        HoldChecker lent = file("new a;lend b a;do b size;join a b;do a begin;do a close;");
        gives(lent, "lent to look, and joined", lent.check(0), 1);
        HoldChecker y = file("do a size;new a;new a;drop b;");
        gives(y, "nothing goes on", y.check(4), 1);
        gives(y, "one is wrong", y.check(3), 1);
        HoldChecker z = file("new a;new a;drop b;do a begin;");
        gives(z, "the least", z.check(1), 1);
        gives(z, "wrong places, the end too", z.check(3), 3);
        gives(z, "all can come", z.check(4), 5);
    }

    private static void promise18() {
        HoldChecker x = file("new a;maybe{share b a;}do a begin;");
        atIs(x, 0, 0, 1, 0, 0, 0, 0);
        atIs(x, 2, 0, 8, 1, 0, 0, 0);
        atIs(x, 3, 0, 12, 1, 2, 0, 0);
        atIs(x, 3, 1, 5, 1, 1, 0, 0);
        atIs(x, 4, 0, 12, 2, 2, 0, 5);
        atIs(x, 4, 1, 5, 3, 1, 0, 5);
        atIs(x, 4, 2, 1, 0, 0, 0, 5);
        refuses(x, "what below", x.at(0, 0, -1), 1);
        refuses(x, "what above", x.at(9, 9, 5), 1);
        refuses(x, "no place", x.at(5, 0, 0), 2);
        refuses(x, "no variable", x.at(0, 3, 0), 2);
        HoldChecker y = file("new a;maybe{share b a;}else{lend b a;}move c b;");
        atIs(y, 4, 0, 6, 1, 2, 2);
        atIs(y, 4, 1, 6, 1, 1, 1);
        atIs(y, 5, 1, 1, 0, 0, 0);
        atIs(y, 5, 2, 6, 1, 1, 1);
        atIs(y, 5, 0, 6, 1, 4, 4);
        HoldChecker z = file("do a size;new a;");
        refuses(z, "it can't come", z.at(1, 0, 0), 5);
        refuses(z, "nor its reason", z.at(1, 0, 4), 5);
        gives(z, "the reason, of the place", z.at(0, 2, 4), 1);
        promise18Joins();
        promise18GoesOn();
        promise18Goes();
        promise18Loops();
    }

    /** What a VARIABLE was ahead of new, move, share, lend goes. */
    private static void promise18Goes() {
        String one = "new a;share b a;do b begin;new c;";
        HoldChecker isNew = file(one + "new b;");
        atIs(isNew, 5, 0, 4, 2, 0, 0);
        atIs(isNew, 5, 1, 8, 1, 0, 0);
        HoldChecker move = file(one + "move b c;");
        atIs(move, 5, 0, 4, 2, 0, 0);
        atIs(move, 5, 1, 8, 1, 0, 0);
        HoldChecker share = file(one + "share b c;");
        atIs(share, 5, 0, 4, 2, 0, 0);
        atIs(share, 5, 1, 4, 1, 4, 4);
        atIs(share, 5, 2, 4, 1, 2, 2);
        HoldChecker lend = file(one + "lend b c;");
        atIs(lend, 5, 0, 4, 2, 0, 0);
        atIs(lend, 5, 1, 2, 1, 4, 4);
        atIs(lend, 5, 2, 2, 1, 2, 2);
        HoldChecker back = file("new a;share b a;move a b;");
        atIs(back, 3, 0, 4, 1, 0, 0);
        atIs(back, 3, 1, 1, 0, 0, 0);
    }

    /** Loops are gone round till nothing is new. */
    private static void promise18Loops() {
        HoldChecker x = loaded("kind k a b c d e f;call k n a b;call k n b c;call k n c d;call k n d e;call k n e f;"
            + "var x k;var y k;new x;loop{maybe{do x n;}}");
        atIs(x, 1, 0, 8, 63, 0, 0, 0);
        atIs(x, 3, 0, 8, 63, 0, 0, 4);
        atIs(x, 4, 0, 8, 63, 0, 0, 5);
        HoldChecker must = file("new a;share b a;loop{maybe{drop b;new b;}}");
        atIs(must, 2, 0, 4, 1, 2, 0);
        atIs(must, 2, 1, 12, 1, 1, 0);
        atIs(must, 5, 1, 1, 0, 0, 0);
        HoldChecker parted = loaded("kind k a b c;test k t a b c;test k t c a a;var x k;var y k;"
            + "new x;lend y x;if x t{maybe{}}else{loop{}}");
        atIs(parted, 3, 0, 2, 2, 2, 2);
        atIs(parted, 4, 0, 2, 4, 2, 2);
        atIs(parted, 4, 1, 2, 4, 1, 1);
        atIs(parted, 5, 1, 2, 6, 1, 1);
        HoldChecker how = file("loop{new a;}");
        atIs(how, 0, 0, 9, 1, 0, 0, 0);
        atIs(how, 1, 0, 9, 1, 0, 0, 1);
    }

    private static void promise18Joins() {
        HoldChecker none = file("new a;share b a;join a b;");
        atIs(none, 3, 0, 8, 1, 0, 0);
        HoldChecker must = file("new a;share b a;share c a;join a b;");
        atIs(must, 4, 0, 4, 1, 4, 4);
        HoldChecker may = file("new a;share b a;maybe{share c a;}join a b;");
        atIs(may, 5, 0, 12, 1, 4, 0);
        atIs(may, 5, 2, 5, 1, 1, 0);
        HoldChecker left = file("new a;share b a;drop b;");
        atIs(left, 3, 0, 4, 1, 0, 0);
        HoldChecker lent = file("new a;share b a;lend c a;drop b;join a c;");
        atIs(lent, 3, 0, 4, 1, 6, 6);
        atIs(lent, 3, 2, 2, 1, 3, 3);
        atIs(lent, 5, 0, 8, 1, 0, 0);
    }

    /** Behind what is WRONG paths go on, as if it was not. */
    private static void promise18GoesOn() {
        HoldChecker x = file("new a;do a begin;new a;");
        atIs(x, 3, 0, 8, 1, 0, 0, 0);
        HoldChecker share = file("share a b;");
        atIs(share, 1, 0, 5, 0, 2, 2, 0);
        atIs(share, 1, 1, 5, 0, 1, 1, 0);
        HoldChecker lend = file("maybe{new b;}lend a b;");
        atIs(lend, 3, 0, 3, 1, 2, 2);
        atIs(lend, 3, 1, 3, 1, 1, 1);
        HoldChecker move = file("new a;share b a;new c;move c b;");
        atIs(move, 4, 2, 4, 1, 1, 1);
        atIs(move, 4, 0, 4, 1, 4, 4);
        HoldChecker whole = file("join a b;");
        atIs(whole, 1, 0, 8, 0, 0, 0, 0);
        HoldChecker states = file("new a;maybe{do a begin;}do a close;");
        gives(states, "wrong in one state", states.at(3, 0, 4), 4);
        atIs(states, 4, 0, 8, 1, 0, 0, 0);
        HoldChecker branches = file("new a;do a begin;share b a;if a more{do b close;}do b size;");
        atIs(branches, 4, 0, 4, 2, 2, 2);
        atIs(branches, 4, 1, 4, 2, 1, 1);
        atIs(branches, 5, 1, 4, 1, 1, 1);
    }

    private static void promise19() {
        HoldChecker x = file("new a;maybe{do a begin;do a begin;}else{drop b;}drop a;");
        int[] due = {0, 1, 0, 0, 0, 0};
        for (int i = 0; i < due.length; i++) {
            gives(x, "without " + i, x.without(i), due[i]);
        }
        refuses(x, "no statement", x.without(6), 2);
        refuses(x, "no statement -1", x.without(-1), 2);
        HoldChecker y = file("new a;do a begin;while a more{do a close;}loop{drop b;}");
        gives(y, "without what is within", y.without(5), 0);
        gives(y, "without the loop", y.without(4), 0);
        gives(y, "without the while", y.without(2), 0);
        HoldChecker z = file("new a;loop{drop b;}drop a;");
        gives(z, "the loop stays without what is in it", z.without(2), 1);
        gives(z, "the loop goes", z.without(1), 1);
        gives(z, "check as before", z.check(0), 0);
    }

    private static void promise20() {
        HoldChecker x = file("new a;loop{drop b;}drop a;");
        gives(x, "the first", x.mend(), 1);
        HoldChecker accepted = file("new a;");
        refuses(accepted, "accepted as it is", accepted.mend(), 5);
        HoldChecker hopeless = file("drop a;drop b;");
        refuses(hopeless, "none", hopeless.mend(), 5);
        HoldChecker end = file("new a;do a begin;new b;do b begin;");
        refuses(end, "the end can't be left out", end.mend(), 5);
        HoldChecker zero = file("drop a;");
        gives(zero, "the very first", zero.mend(), 0);
        HoldChecker last = file("new a;drop a;drop a;");
        gives(last, "an earlier one that is as good", last.mend(), 1);
        gives(last, "status 0 behind it", last.without(2), 1);
    }

    private static HoldChecker manyWays(int... loops) {
        return loaded(manyText(loops));
    }

    private static void promise21() {
        pathsAre(file("new a;do a begin;do a close;drop a;"), 5, 0, NONE, NONE, 0, 1, 1);
        pathsAre(file("new a;new b;do b begin;drop b;drop a;"), 4, 1, 4, 5, 0, 2, 0);
        pathsAre(file("new a;do a begin;"), 3, 1, 3, 5, 0, 1, 0);
        pathsAre(file("new a;share b a;lend c b;"), 4, 0, NONE, NONE, 0, 1, 1);
        pathsAre(file("new a;maybe{share b a;}else{new b;}"), 6, 0, NONE, NONE, 0, 2, 2);
        pathsAre(file("loop{new a;drop a;}"), 4, 0, NONE, NONE, 0, 1, 1);
        pathsAre(file("new a;maybe{do a begin;if a more{do a close;}}drop a;"), 7, 0, NONE, NONE, 0, 1, 1);
        // The end is WRONG with a open, not where it was shut.
        pathsAre(file("new a;maybe{do a begin;}"), 5, 1, 4, 5, 0, 1, 1);
        // CHECK doesn't know that whichever is shared went down again with x: an ALARM.
        HoldChecker alarm = loaded("kind k a b;end k a;call k up a b;call k down b a;var x k;var y k;var z k;"
            + "new x;maybe{share y x;}else{share z x;}do x up;do x down;");
        gives(alarm, "CHECK refuses", alarm.check(0), 0);
        pathsAre(alarm, 10, 0, NONE, NONE, 1, 1, 2);
        refuses(alarm, "what below", alarm.paths(-1), 1);
        refuses(alarm, "what above", alarm.paths(7), 1);
        promise21More();
    }

    private static void promise21More() {
        pathsAre(manyWays(), 196, 0, NONE, NONE, 0, 6, 64);
        pathsAre(manyWays(0, 0, 1, 0, 0, 1, 12), 1000, 0, NONE, NONE, 0, 6, 64);
        HoldChecker x = manyWays(1, 0, 1, 0, 0, 1, 12);
        for (int what = 0; what < 7; what++) {
            refuses(x, "1,001: more, " + what, x.paths(what), 6);
        }
        refuses(x, "paths, 1 first", x.paths(7), 1);
        refuses(x, "path", x.path(0), 6);
        refuses(x, "path, 1 first", x.path(-1), 1);
        refuses(x, "truly", x.truly(0, 0, 0), 6);
        refuses(x, "truly, 1 first", x.truly(99, 0, 4), 1);
        refuses(x, "truly, 2 next", x.truly(99, 0, 0), 2);
        refuses(x, "left", x.left(0), 6);
        refuses(x, "left, 2 first", x.left(1), 2);
        refuses(x, "never", x.never(NONE), 6);
        refuses(x, "never, 1 first", x.never(-2), 1);
        gives(x, "check none the less", x.check(0), 1);
        gives(x, "runs none the less", x.run(1, 1), 0);
    }

    private static void promise22() {
        HoldChecker x = file("maybe{drop a;}else{drop b;}");
        gives(x, "length", x.paths(2), 2);
        gives(x, "path 0", x.path(0), 0);
        gives(x, "into the block first", x.path(1), 1);
        refuses(x, "behind it", x.path(2), 5);
        refuses(x, "far behind it", x.path(Integer.MAX_VALUE), 5);
        refuses(x, "below 0", x.path(-1), 1);
        HoldChecker fewest = file("maybe{new a;drop a;drop a;}else{new b;drop c;}");
        int[] due = {0, 4, 5};
        gives(fewest, "the fewest", fewest.paths(2), 3);
        for (int i = 0; i < due.length; i++) {
            gives(fewest, "path " + i, fewest.path(i), due[i]);
        }
        HoldChecker end = file("new a;do a begin;loop{do a read;}");
        int[] toEnd = {0, 1, 2, 4};
        for (int i = 0; i < toEnd.length; i++) {
            gives(end, "to the end, " + i, end.path(i), toEnd[i]);
        }
        HoldChecker loop = file("new a;do a begin;while a more{do a close;}drop a;");
        int[] round = {0, 1, 2, 3, 2};
        gives(loop, "once round", loop.paths(2), 5);
        gives(loop, "reason", loop.paths(3), 4);
        for (int i = 0; i < round.length; i++) {
            gives(loop, "round, " + i, loop.path(i), round[i]);
        }
        HoldChecker fine = file("new a;");
        refuses(fine, "none is wrong", fine.path(0), 5);
    }

    private static void promise23() {
        HoldChecker x = file("new a;maybe{share b a;}do a begin;");
        trulyIs(x, 0, 0, 1, 0, 0, 0);
        trulyIs(x, 3, 0, 12, 1, 2, 0);
        trulyIs(x, 3, 1, 5, 1, 1, 1);
        trulyIs(x, 4, 1, 5, 2, 1, 1);
        trulyIs(x, 4, 2, 1, 0, 0, 0);
        refuses(x, "what below", x.truly(0, 0, -1), 1);
        refuses(x, "what above", x.truly(9, 9, 4), 1);
        refuses(x, "no place", x.truly(5, 0, 0), 2);
        refuses(x, "no place -1", x.truly(-1, 0, 0), 2);
        refuses(x, "no variable", x.truly(0, 3, 0), 2);
        HoldChecker y = file("new a;drop b;drop a;");
        trulyIs(y, 1, 0, 8, 1, 0, 0);
        refuses(y, "none is there", y.truly(2, 0, 0), 5);
        HoldChecker z = file("new a;lend b a;lend c b;maybe{drop c;}else{drop b;}do a size;");
        trulyIs(z, 6, 0, 2, 1, 6, 0);
        trulyIs(z, 6, 1, 3, 1, 1, 1);
        trulyIs(z, 6, 2, 3, 1, 1, 1);
    }

    private static void promise24() {
        HoldChecker x = file("new a;new b;do b begin;maybe{do b close;}drop a;");
        gives(x, "by drop, at the end", x.left(0), 3);
        HoldChecker shared = file("new a;do a begin;share b a;drop b;do a close;");
        gives(shared, "dropped, but held still", shared.left(0), 1);
        HoldChecker wrongDrop = file("new a;do a begin;drop a;");
        gives(wrongDrop, "left in no end", wrongDrop.left(0), 2);
        HoldChecker none = file("new a;drop b;");
        gives(none, "nothing is left ahead of what is wrong", none.left(0), 0);
        HoldChecker two = loaded("kind k a;kind l a b;end l a b;call l m a b;var x k;var y l;new y;do y m;drop y;new x;");
        gives(two, "by kind, 0", two.left(0), 1);
        gives(two, "by kind, 1", two.left(1), 2);
        refuses(two, "no kind", two.left(2), 2);
        refuses(two, "no kind -1", two.left(-1), 2);
    }

    private static void promise25() {
        HoldChecker x = file("new a;maybe{drop b;new b;}else{drop a;}new a;drop c;new c;");
        gives(x, "how many", x.never(NONE), 2);
        gives(x, "the first", x.never(0), 3);
        gives(x, "the second", x.never(1), 7);
        refuses(x, "no third", x.never(2), 5);
        refuses(x, "below NONE", x.never(-2), 1);
        HoldChecker all = file("new a;");
        gives(all, "none", all.never(NONE), 0);
        refuses(all, "no first", all.never(0), 5);
    }

    /** Draws from SEED 0: 74, 5624, 28652, 51790, 17641: four times yes, then no. From 1: 149: no. */
    private static void promise26() {
        HoldChecker x = file("new a;do a begin;loop{do a read;}do a close;drop a;new a;");
        int[] four = {2 + 9 + 3, 0, 7, 2};
        int[] none = {2 + 1 + 3, 0, 7, 2};
        for (int what = 0; what < 4; what++) {
            gives(x, "seed 0, " + what, x.run(0, what), four[what]);
            gives(x, "seed 1, " + what, x.run(1, what), none[what]);
        }
        HoldChecker end = file("new a;do a begin;");
        int[] wrongEnd = {2, 5, 2, 1};
        HoldChecker step = file("new a;maybe{new a;}else{drop b;}drop a;");
        int[] byYes = {3, 1, 2, 1};
        int[] byNo = {3, 1, 3, 1};
        HoldChecker test = file("new a;do a begin;while a more{do a read;}");
        int[] rounds = {2 + 9, 0, 4, 1};
        for (int what = 0; what < 4; what++) {
            gives(end, "wrong end, " + what, end.run(0, what), wrongEnd[what]);
            gives(step, "wrong by yes, " + what, step.run(0, what), byYes[what]);
            gives(step, "wrong by no, " + what, step.run(1, what), byNo[what]);
            gives(test, "a test, " + what, test.run(0, what), rounds[what]);
        }
        // 65,536 comes of itself: always yes.
        int[] always = {300, 6, 2, 1};
        for (int what = 0; what < 4; what++) {
            gives(x, "the highest seed, " + what, x.run(65536, what), always[what]);
        }
        refuses(x, "seed below", x.run(-1, 0), 1);
        refuses(x, "seed above", x.run(65537, 0), 1);
        refuses(x, "what below", x.run(0, -1), 1);
        refuses(x, "what above", x.run(0, 4), 1);
        promise26Long();
    }

    /** loop{ 22 times maybe{} }: 13 times round and out are 300 statements, not too long just yet. */
    private static void promise26Long() {
        String text = "loop{" + times(22, "maybe{}") + "}";
        HoldChecker x = loaded(text);
        int exact = 0;
        int tooLong = 0;
        for (int seed = 0; seed <= 65536; seed++) {
            int draw = seed;
            int rounds = 0;
            for (boolean yes = true; yes && rounds <= 14; ) {
                draw = (75 * draw + 74) % 65537;
                yes = draw % 2 == 0;
                rounds += yes ? 1 : 0;
                for (int i = 0; yes && i < 22; i++) {
                    draw = (75 * draw + 74) % 65537;
                }
            }
            if (rounds == 13 && exact < 3) {
                exact++;
                gives(x, "exactly 300", x.run(seed, 0), 300);
                gives(x, "it comes to the end", x.run(seed, 1), 0);
                gives(x, "where it stands", x.run(seed, 2), 23);
            }
            if (rounds == 14 && tooLong < 3) {
                tooLong++;
                gives(x, "300 at most", x.run(seed, 0), 300);
                gives(x, "too long", x.run(seed, 1), 6);
                gives(x, "where it stands then", x.run(seed, 2), 1);
            }
        }
        due("seeds at the edge are found", exact > 0 && tooLong > 0 ? 1 : 0, 1);
    }

    private static void promise27() {
        HoldChecker x = file("new a;maybe{drop b;}else{do a close;}");
        int yes = 0;
        for (int seed = 100; seed < 150; seed++) {
            yes += (75 * seed + 74) % 65537 % 2 == 0 ? 1 : 0;
        }
        gives(x, "as wrong by 1", x.runs(100, 50, 1), yes);
        gives(x, "as wrong by 4", x.runs(100, 50, 4), 50 - yes);
        for (int how = 0; how <= 6; how++) {
            if (how != 1 && how != 4) {
                gives(x, "as " + how, x.runs(100, 50, how), 0);
            }
        }
        gives(x, "one", x.runs(0, 1, 1), 1);
        gives(x, "up to the highest seed", x.runs(65487, 50, 1) + x.runs(65487, 50, 4), 50);
        gives(x, "the highest alone", x.runs(65536, 1, 1), 1);
        HoldChecker endless = file("loop{}");
        gives(endless, "too long", endless.runs(65536, 1, 6), 1);
        gives(endless, "not to the end", endless.runs(65536, 1, 0), 0);
        refuses(x, "one above the highest", x.runs(65488, 50, 1), 1);
        refuses(x, "seed above", x.runs(65537, 1, 1), 1);
        refuses(x, "seed below", x.runs(-1, 1, 1), 1);
        refuses(x, "n 0", x.runs(0, 0, 1), 1);
        refuses(x, "n 51", x.runs(0, 51, 1), 1);
        refuses(x, "how below", x.runs(0, 1, -1), 1);
        refuses(x, "how above", x.runs(0, 1, 7), 1);
        refuses(x, "a seed far above", x.runs(Integer.MAX_VALUE, 50, 1), 1);
    }

    /** Nothing stays of a program when another one is loaded. */
    private static void reloads() {
        String[] texts = {
            FILE + "new a;do a begin;maybe{share b a;}else{lend b a;move c b;}loop{do a read;}drop b;drop c;new c;",
            "",
            "kind k a b;kind l a b c;end l c;call l m a b;test l t b c a;look k m b;var x l;new x;do x m;if x t{}",
            manyText(1, 0, 1, 0, 0, 1, 12),
            "maybe{}else{loop{}}",
            FILE + "new a;drop a;",
            FILE_KIND + "var z file;drop z;new z;",
        };
        for (String third : texts) {
            for (String first : texts) {
                for (String second : texts) {
                    sameAnswers(third + " behind others", () -> loadedAll(first, second, third), () -> loaded(third));
                }
            }
        }
    }

    /** Texts one behind another, the first of them asked for all that may be kept. */
    private static HoldChecker loadedAll(String first, String second, String third) {
        HoldChecker x = loaded(first);
        x.mend();
        x.without(0);
        x.paths(0);
        x.run(0, 0);
        x.alike(0, 0, 0);
        load(x, second);
        load(x, third);
        return x;
    }

    /** No call may throw, whatever it is given; ahead of a load and behind one. */
    private static void extremes() {
        for (int i : EXTREMES) {
            extremes(new HoldChecker(), i);
            extremes(file("new a;loop{maybe{share b a;}}drop a;"), i);
        }
    }

    private static void extremes(HoldChecker x, int i) {
        for (int j : EXTREMES) {
            due("kind", x.kind(i, j), NONE);
            due("method", x.method(i, j, 0), NONE);
            due("comes", x.comes(i, 0, j, true), NONE);
            due("tell", x.tell(i, j, 0, true, 0), NONE);
            due("toEnd", x.toEnd(i, j), NONE);
            due("towards", x.towards(i, j), NONE);
            due("alike", x.alike(i, j, i), NONE);
            due("rows", x.rows(i, j, false), NONE);
            due("statement", x.statement(i, j), NONE);
            due("at", x.at(i, j, 0), NONE);
            due("truly", x.truly(i, j, 0), NONE);
            due("run", x.run(i, j), NONE);
            due("runs", x.runs(i, j, i), NONE);
        }
        due("many", x.many(i), NONE);
        due("variable", x.variable(i), NONE);
        due("check", x.check(i), NONE);
        due("without", x.without(i), NONE);
        due("paths", x.paths(i), NONE);
        due("path", x.path(i), NONE);
        due("left", x.left(i), NONE);
        due("fault", x.fault(i), NONE);
    }

    public static void main(String[] args) {
        Runnable[] promises = {
            PromiseTest::promise1, PromiseTest::promise2, PromiseTest::promise3, PromiseTest::promise4,
            PromiseTest::promise5, PromiseTest::promise6, PromiseTest::promise7, PromiseTest::promise8,
            PromiseTest::promise9, PromiseTest::promise10, PromiseTest::promise11, PromiseTest::promise12,
            PromiseTest::promise13, PromiseTest::promise14, PromiseTest::promise15, PromiseTest::promise16,
            PromiseTest::promise17, PromiseTest::promise18, PromiseTest::promise19, PromiseTest::promise20,
            PromiseTest::promise21, PromiseTest::promise22, PromiseTest::promise23, PromiseTest::promise24,
            PromiseTest::promise25, PromiseTest::promise26, PromiseTest::promise27, PromiseTest::reloads,
            PromiseTest::extremes,
        };
        for (int i = 0; i < promises.length; i++) {
            about(i < 27 ? "promise " + (i + 1) : i == 27 ? "reloads" : "extremes");
            promises[i].run();
        }
        finish("promises");
    }
}
