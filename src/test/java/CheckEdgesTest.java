/** The edges that the document names of CHECK: sentence by sentence. */
public final class CheckEdgesTest extends Asking {
    private static final int[] OUTSIDE = {LEAST, -2, -1, MOST};
    /** STATES p 0, q 1, r 2, all ends; a CALL m from p to q, a TEST t from p to q or r, a LOOK l at p. */
    private static final String THREE =
        "kind k p q r;end k p q r;call k m p q;test k t p q r;look k l p;var a k;var b k;var c k;";
    /** a may be held in all four ways at place 7, b in three. */
    private static final String ANY_WAY = "new a;maybe{drop a;}else{maybe{share b a;}else{maybe{lend b a;}}}";

    private static void refused(String program, int place, int reason) {
        HoldChecker x = file(program);
        gives(x, "check 0 of " + program, x.check(0), 0);
        gives(x, "check 1 of " + program, x.check(1), place);
        gives(x, "check 2 of " + program, x.check(2), reason);
    }

    private static void accepted(String program) {
        HoldChecker x = file(program);
        gives(x, "check 0 of " + program, x.check(0), 1);
        gives(x, "check 3 of " + program, x.check(3), 0);
    }

    // ---- what may be at a PLACE

    private static void bits() {
        sentence("HOW it may be held (bits: 1 none, 2 to LOOK, 4 SHARED, 8 WHOLE), STATES in which its thing may be (bits)");
        HoldChecker x = file(ANY_WAY);
        atIs(x, 0, 0, 1, 0);
        atIs(x, 1, 0, 8, 1);
        atIs(x, 7, 0, 15, 1, 2, 0, 0);
        atIs(x, 7, 1, 7, 1, 1, 0, 0);
        atIs(x, 7, 2, 1, 0, 0, 0, 0);
        sentence("of two: whether they MAY hold one thing, MUST (both hold, and one).");
        HoldChecker six = loaded("kind k s;end k s;var a k;var b k;var c k;var d k;var e k;var f k;"
            + "new a;share b a;share c b;lend d c;lend e d;share f a;");
        for (int v = 0; v < 6; v++) {
            atIs(six, 6, v, v == 3 || v == 4 ? 2 : 4, 1, 63 & ~(1 << v), 63 & ~(1 << v), 0);
        }
        HoldChecker not = file("new a;new b;");
        atIs(not, 2, 0, 8, 1, 0, 0);
        sentence("At the beginning: all none, no STATES.");
        for (int v = 0; v < 6; v++) {
            atIs(six, 0, v, 1, 0, 0, 0, 0);
        }
        HoldChecker round = file("loop{new a;}");
        atIs(round, 0, 1, 1, 0, 0, 0, 0);
    }

    private static void comingTogether() {
        sentence("Paths that come together: HOW, STATES, MAY of either; MUST of both.");
        HoldChecker may = file("new a;do a begin;maybe{share b a;}else{new b;}");
        atIs(may, 5, 0, 12, 2, 2, 0);
        atIs(may, 5, 1, 12, 3, 1, 0);
        HoldChecker must = file("new a;maybe{share b a;}else{lend b a;}");
        atIs(must, 4, 0, 6, 1, 2, 2);
        atIs(must, 4, 1, 6, 1, 1, 1);
        HoldChecker changed = file("new a;maybe{share b a;share c a;}else{share c a;lend b c;}");
        atIs(changed, 6, 0, 4, 1, 6, 6);
        atIs(changed, 6, 1, 6, 1, 5, 5);
        HoldChecker three = file("new a;maybe{share b a;}else{maybe{share c a;}}");
        atIs(three, 5, 0, 12, 1, 6, 0);
        atIs(three, 5, 1, 5, 1, 1, 0);
        atIs(three, 5, 2, 5, 1, 1, 0);
        sentence("Again and again till nothing is new.");
        HoldChecker chain = loaded("kind k a b c d e f;call k n a b;call k n b c;call k n c d;call k n d e;call k n e f;"
            + "var x k;new x;loop{loop{loop{loop{}maybe{do x n;}}}}");
        atIs(chain, 1, 0, 8, 63, 0, 0, 0);
        atIs(chain, 6, 0, 8, 63, 0, 0, 4);
        HoldChecker far = loaded("kind k s;end k s;var a k;var b k;var c k;var d k;var e k;var f k;new a;loop{maybe{move f e;}"
            + "maybe{move e d;}maybe{move d c;}maybe{move c b;}maybe{move b a;}}");
        for (int v = 0; v < 6; v++) {
            atIs(far, 1, v, 9, 1, 0, 0, 0);
        }
        HoldChecker parted = file("new a;share b a;loop{maybe{drop b;new b;}}");
        atIs(parted, 2, 0, 4, 1, 2, 0);
        atIs(parted, 2, 1, 12, 1, 1, 0);
        atIs(parted, 3, 1, 12, 1, 1, 0);
    }

    // ---- what is WRONG

    private static void wrongAtLast() {
        sentence("A STATEMENT is WRONG in CHECK (by what is there when nothing more is new; paths go on behind it all the"
            + " same, as if it was not)");
        refused("loop{new a;}", 1, 1);
        refused("new a;loop{do a begin;}", 2, 4);
        refused("new a;loop{do a size;lend b a;}", 3, 1);
        HoldChecker x = file("drop a;drop b;new c;new c;");
        gives(x, "three are wrong", x.check(3), 3);
        gives(x, "all come", x.check(4), 5);
        atIs(x, 4, 2, 8, 1, 0, 0, 0);
        HoldChecker how = file("new a;lend b a;do a begin;do b close;");
        gives(how, "wrong by how, twice", how.check(3), 2);
        atIs(how, 3, 0, 2, 2, 2, 2, 3);
        atIs(how, 4, 1, 2, 1, 1, 1, 0);
        HoldChecker state = file("new a;maybe{do a begin;}do a close;");
        atIs(state, 4, 0, 8, 1, 0, 0, 0);
    }

    private static void wrongByHolding() {
        sentence("the first that holds: 1 by what may be held or none");
        refused("maybe{new a;}new a;", 2, 1);
        String[] two = {"move", "share", "lend"};
        for (String word : two) {
            refused("new b;maybe{new a;}" + word + " a b;", 3, 1);
            refused("maybe{new b;}" + word + " a b;", 2, 1);
            refused("new b;maybe{lend a b;}" + word + " a b;", 3, 1);
        }
        refused("new a;share b a;maybe{drop a;}join a b;", 4, 1);
        refused("new a;share b a;maybe{drop b;}join a b;", 4, 1);
        refused("new a;maybe{drop a;}drop a;", 3, 1);
        refused("maybe{new a;}do a size;", 2, 1);
        refused("maybe{new a;do a begin;}if a more{}", 3, 1);
        refused("maybe{new a;do a begin;}while a more{}", 3, 1);
        refused("new a;maybe{lend b a;}share c b;", 3, 1);
        refused("maybe{new a;}do a close;", 2, 1);
        refused("new a;do a begin;maybe{share b a;drop a;}drop a;", 5, 1);
        refused("new a;maybe{new b;}join a b;", 3, 1);
    }

    private static void wrongByOthers() {
        sentence("2 join of two that needn't be one (not MUST)");
        refused("new a;new b;join a b;", 2, 2);
        refused("new a;maybe{share b a;}else{new b;}join a b;", 4, 2);
        accepted("new a;maybe{share b a;}else{lend b a;}join a b;");
        refused("new a;share b a;loop{drop b;new b;}join a b;", 5, 2);
        sentence("3 by HOW; 4 a STATE in which it can't be");
        refused("new a;maybe{lend b a;}do a begin;", 3, 3);
        refused("new a;do a begin;maybe{lend b a;}if a more{}", 4, 3);
        refused("new a;do a begin;maybe{lend b a;}while a more{}", 4, 3);
        refused("new a;maybe{lend b a;drop b;}share c a;", 4, 3);
        refused("new a;maybe{lend b a;}do a close;", 3, 3);
        accepted("new a;maybe{lend b a;}do a size;");
        accepted("new a;maybe{share b a;}do a size;");
        refused("new a;maybe{do a begin;}do a close;", 3, 4);
        refused("new a;maybe{do a begin;}do a begin;", 3, 4);
        refused("new a;maybe{do a begin;}if a more{}", 3, 4);
        refused("new a;maybe{do a begin;}while a more{}", 3, 4);
        accepted("new a;maybe{do a begin;do a close;}do a begin;do a close;");
        sentence("5 drop by what may be the last one that HOLDS (no other VARIABLE MUST be one with it) with a STATE that is"
            + " no end.");
        refused("new a;do a begin;drop a;", 2, 5);
        refused("new a;maybe{do a begin;}drop a;", 3, 5);
        refused("new a;do a begin;maybe{share b a;}drop a;", 4, 5);
        HoldChecker must = file("new a;do a begin;maybe{share b a;}else{lend b a;}drop a;");
        gives(must, "another one must be one with it", must.at(5, 0, 4), 0);
        gives(must, "the end is wrong", must.check(1), 6);
        accepted("new a;share b a;drop a;drop b;");
        sentence("The end: 5, if some VARIABLE may hold one in no end.");
        refused("new a;maybe{do a begin;}", 3, 5);
        refused("maybe{new c;do c begin;}", 3, 5);
        accepted("maybe{new c;do c begin;do c close;}");
        HoldChecker last = loaded("kind k s t;end k s;kind l s;call k m s t;var a k;var b k;var c k;var d k;var e k;var f l;"
            + "maybe{new f;}");
        gives(last, "the last variable", last.check(1), 2);
        gives(last, "left at the end", last.check(2), 5);
    }

    // ---- what becomes of it

    private static void newAndMove() {
        sentence("new: WHOLE alone, the FIRST STATE, one with none.");
        HoldChecker isNew = file("new a;do a begin;maybe{share b a;}new a;");
        atIs(isNew, 5, 0, 8, 1, 0, 0);
        atIs(isNew, 5, 1, 5, 2, 0, 0);
        sentence("move: A as B was (HOW, STATES), with MAY, MUST of B; B none, one with none.");
        HoldChecker moved = file("new a;share b a;maybe{share c a;do c begin;}move c b;");
        atIs(moved, 6, 2, 4, 3, 1, 1);
        atIs(moved, 6, 1, 1, 0, 0, 0);
        atIs(moved, 6, 0, 4, 3, 4, 4);
        HoldChecker may = file(ANY_WAY + "move c b;");
        atIs(may, 8, 2, 7, 1, 1, 0);
        atIs(may, 8, 1, 1, 0, 0, 0);
        atIs(may, 8, 0, 15, 1, 4, 0);
        HoldChecker none = file("new a;move a b;");
        atIs(none, 2, 0, 1, 0, 0, 0);
        atIs(none, 2, 1, 1, 0, 0, 0);
    }

    private static void shareAndLend() {
        sentence("share: both SHARED alone (and none, if B may be none); A has B's STATES, MAY, MUST, and MAY and MUST be"
            + " one with B.");
        HoldChecker share = file(ANY_WAY + "share c a;");
        atIs(share, 8, 0, 5, 1, 6, 4);
        atIs(share, 8, 2, 5, 1, 3, 1);
        atIs(share, 8, 1, 7, 1, 5, 0);
        HoldChecker whole = file("new a;do a begin;maybe{lend b a;}share c a;");
        atIs(whole, 5, 0, 4, 2, 6, 4);
        atIs(whole, 5, 1, 3, 2, 5, 0);
        atIs(whole, 5, 2, 4, 2, 3, 1);
        HoldChecker noneShared = file("share a b;");
        atIs(noneShared, 1, 0, 5, 0, 2, 2);
        atIs(noneShared, 1, 1, 5, 0, 1, 1);
        HoldChecker all = file("new a;share b a;share c b;");
        atIs(all, 3, 2, 4, 1, 3, 3);
        atIs(all, 3, 0, 4, 1, 6, 6);
        sentence("lend: A to LOOK alone (and none, if B may be none), all else likewise; of B's HOW WHOLE becomes LOOK.");
        HoldChecker lend = file(ANY_WAY + "lend c a;");
        atIs(lend, 8, 0, 7, 1, 6, 4);
        atIs(lend, 8, 2, 3, 1, 3, 1);
        atIs(lend, 8, 1, 7, 1, 5, 0);
        HoldChecker held = file("new a;maybe{share b a;}lend c a;");
        atIs(held, 4, 0, 6, 1, 6, 4);
        atIs(held, 4, 2, 2, 1, 3, 1);
        HoldChecker shared = file("new a;share b a;lend c a;");
        atIs(shared, 3, 0, 4, 1, 6, 6);
        HoldChecker noneLent = file("lend a b;");
        atIs(noneLent, 1, 0, 3, 0, 2, 2);
        atIs(noneLent, 1, 1, 1, 0, 1, 1);
    }

    private static void whatGoes() {
        sentence("(What A was ahead of these goes.)");
        String ahead = "new a;share b a;do b begin;new c;";
        String[] words = {"new b;", "move b c;", "share b c;", "lend b c;"};
        int[] ofB = {8, 8, 4, 2};
        int[] ones = {0, 0, 4, 4};
        for (int i = 0; i < words.length; i++) {
            HoldChecker x = file(ahead + words[i]);
            atIs(x, 5, 0, 4, 2, 0, 0);
            atIs(x, 5, 1, ofB[i], 1, ones[i], ones[i]);
        }
        HoldChecker same = file("new a;lend b a;share b a;");
        atIs(same, 3, 0, 4, 1, 2, 2);
        atIs(same, 3, 1, 4, 1, 1, 1);
        HoldChecker back = file("new a;share b a;move a b;");
        atIs(back, 3, 0, 4, 1, 0, 0);
        atIs(back, 3, 1, 1, 0, 0, 0);
    }

    private static void joinAndDrop() {
        sentence("join, drop: that one (B of a join) is none, one with none; A of a join then: WHOLE alone, if it MAY be one"
            + " with none; else as it was, and WHOLE, too, if it MUST be one with none.");
        HoldChecker dropped = file(ANY_WAY + "drop b;");
        atIs(dropped, 8, 0, 15, 1, 0, 0);
        atIs(dropped, 8, 1, 1, 0, 0, 0);
        HoldChecker alone = file(ANY_WAY + "join a b;");
        atIs(alone, 8, 0, 8, 1, 0, 0);
        atIs(alone, 8, 1, 1, 0, 0, 0);
        HoldChecker must = file("new a;share b a;lend c a;join a b;");
        atIs(must, 4, 0, 4, 1, 4, 4);
        atIs(must, 4, 2, 2, 1, 1, 1);
        HoldChecker may = file("new a;share b a;maybe{lend c a;}join a b;");
        atIs(may, 5, 0, 12, 1, 4, 0);
        atIs(may, 5, 1, 1, 0, 0, 0);
        HoldChecker others = file("new c;share b c;maybe{lend a c;}join c b;");
        atIs(others, 5, 2, 12, 1, 1, 0);
        HoldChecker none = file("join a b;");
        atIs(none, 1, 0, 8, 0, 0, 0);
        HoldChecker other = file("new a;new b;join a b;");
        atIs(other, 3, 0, 8, 1, 0, 0);
        atIs(other, 3, 1, 1, 0, 0, 0);
    }

    private static void asking() {
        sentence("do, if, while: of VAR: what comes of its STATES in which the METHOD can be (by yes, by no)");
        HoldChecker own = loaded(THREE + "new a;maybe{if a t{}else{}}do a m;");
        atIs(own, 3, 0, 8, 7, 0, 0, 4);
        atIs(own, 4, 0, 8, 2, 0, 0, 0);
        HoldChecker branches = loaded(THREE + "new a;if a t{maybe{}}else{loop{}}");
        atIs(branches, 2, 0, 8, 2);
        atIs(branches, 3, 0, 8, 4);
        atIs(branches, 4, 0, 8, 6);
        HoldChecker look = loaded(THREE + "new a;maybe{do a m;}do a l;");
        atIs(look, 3, 0, 8, 3, 0, 0, 4);
        atIs(look, 4, 0, 8, 1, 0, 0, 0);
        HoldChecker several = loaded(THREE.replace("call k m p q;", "call k m p q;call k m q r;")
            + "new a;share b a;maybe{do a m;}maybe{share c a;}do a m;");
        atIs(several, 6, 0, 4, 3, 6, 2, 0);
        atIs(several, 7, 0, 4, 6, 6, 2, 0);
        atIs(several, 7, 1, 4, 6, 5, 1, 0);
        atIs(several, 7, 2, 5, 7, 3, 0, 0);
        HoldChecker held = loaded(THREE + "maybe{new a;}do a m;");
        atIs(held, 3, 0, 9, 2, 0, 0, 0);
        sentence("of those that MUST be one with it, the same; of those that MAY alone: what they had, and what comes of"
            + " these (in which it can be).");
        HoldChecker must = loaded(THREE + "new a;share b a;lend c b;if a t{maybe{}}else{loop{}}");
        for (int v = 0; v < 3; v++) {
            atIs(must, 4, v, v == 2 ? 2 : 4, 2);
            atIs(must, 5, v, v == 2 ? 2 : 4, 4);
        }
        HoldChecker may = loaded(THREE + "new a;maybe{share b a;}else{new b;maybe{if b t{}else{}}}do a m;");
        atIs(may, 6, 0, 12, 1, 2, 0, 0);
        atIs(may, 6, 1, 12, 7, 1, 0, 0);
        atIs(may, 7, 0, 12, 2, 2, 0, 0);
        atIs(may, 7, 1, 12, 7, 1, 0, 0);
        HoldChecker mayBoth = loaded(THREE + "new a;maybe{share b a;}if a t{maybe{}}else{loop{}}");
        atIs(mayBoth, 4, 1, 5, 3, 1, 0, 0);
        atIs(mayBoth, 5, 1, 5, 5, 1, 0, 0);
        atIs(mayBoth, 4, 0, 12, 2, 2, 0, 0);
        HoldChecker last = loaded(THREE + "new c;maybe{share b c;}do c m;");
        atIs(last, 4, 2, 12, 2, 2, 0, 0);
        atIs(last, 4, 1, 5, 3, 4, 0, 0);
        atIs(last, 4, 0, 1, 0, 0, 0, 0);
        HoldChecker apart = loaded(THREE + "new a;new b;do a m;");
        atIs(apart, 3, 1, 8, 1, 0, 0, 0);
        sentence("Where nothing comes of VAR, nothing goes on.");
        HoldChecker none = loaded(THREE + "do a l;new b;");
        gives(none, "one place comes", none.check(4), 1);
        gives(none, "one is wrong", none.check(3), 1);
        refuses(none, "not the next one", none.at(1, 0, 0), 5);
        refuses(none, "nor the end", none.at(2, 0, 0), 5);
        HoldChecker cant = loaded(THREE + "new a;do a m;if a t{new b;}else{new c;}");
        gives(cant, "three places come", cant.check(4), 3);
        gives(cant, "wrong by its state", cant.check(2), 4);
        HoldChecker round = loaded(THREE + "new a;do a m;while a t{}");
        refuses(round, "nor by no", round.at(3, 0, 0), 5);
        HoldChecker one = loaded(THREE + "maybe{do a m;}new b;");
        gives(one, "the other way goes on", one.check(4), 4);
        atIs(one, 2, 0, 1, 0, 0, 0, 0);
    }

    // ---- the calls

    private static void checks() {
        sentence("ACCEPTED: nothing is WRONG. Else REFUSED at the least PLACE that is WRONG, with that reason.");
        accepted("");
        accepted("new a;");
        refused("new a;do a close;drop b;", 1, 4);
        refused("maybe{new a;do a close;}else{drop b;}", 2, 4);
        refused("maybe{new a;do a begin;}else{drop b;}", 3, 1);
        refused("loop{drop b;}drop a;", 1, 1);
        sentence("CHECK, what 0: 1 ACCEPTED, 0 REFUSED, 1: the PLACE at which it is REFUSED, 2: the reason, 3: how many"
            + " PLACES are WRONG, 4: how many can come (1; 5 of 1, 2: it is ACCEPTED).");
        HoldChecker empty = new HoldChecker();
        int[] due = {1, NONE, NONE, 0, 1};
        HoldChecker most = loaded("kind k s;var a k;" + times(40, "new a;"));
        int[] dueMost = {0, 1, 1, 40, 41};
        HoldChecker first = file("do a size;new b;");
        int[] dueFirst = {0, 0, 1, 1, 1};
        for (int what = 0; what < 5; what++) {
            if (due[what] == NONE) {
                refuses(empty, "accepted, " + what, empty.check(what), 5);
            } else {
                gives(empty, "accepted, " + what, empty.check(what), due[what]);
            }
            gives(most, "the most, " + what, most.check(what), dueMost[what]);
            gives(first, "the first, " + what, first.check(what), dueFirst[what]);
        }
        for (int what : OUTSIDE) {
            refuses(empty, "accepted, what " + what, empty.check(what), 1);
            refuses(most, "refused, what " + what, most.check(what), 1);
        }
        refuses(empty, "accepted, what 5", empty.check(5), 1);
        refuses(most, "refused, what 5", most.check(5), 1);
    }

    private static void atPlaces() {
        sentence("At a PLACE of a VARIABLE, what 0: HOW, 1: STATES, 2: those it MAY, 3: MUST be one with, as bits, 4: the"
            + " reason why it is WRONG there (0 not; of the PLACE) (1; 2; 5: it can't come).");
        HoldChecker x = loaded("kind k s;var a k;var b k;var c k;var d k;var e k;var f k;" + times(40, "new a;"));
        atIs(x, 40, 0, 8, 1, 0, 0, 5);
        atIs(x, 40, 5, 1, 0, 0, 0, 5);
        atIs(x, 0, 5, 1, 0, 0, 0, 0);
        atIs(x, 39, 3, 1, 0, 0, 0, 1);
        for (int number : OUTSIDE) {
            refuses(x, "what " + number, x.at(0, 0, number), 1);
            refuses(x, "all " + number, x.at(number, number, number), 1);
            refuses(x, "place " + number, x.at(number, 0, 0), 2);
            refuses(x, "variable " + number, x.at(0, number, 0), 2);
        }
        refuses(x, "what 5", x.at(0, 0, 5), 1);
        refuses(x, "what 5 of none", x.at(41, 6, 5), 1);
        refuses(x, "place 41", x.at(41, 0, 0), 2);
        refuses(x, "variable 6", x.at(0, 6, 0), 2);
        refuses(x, "variable 6, the reason", x.at(0, 6, 4), 2);
        HoldChecker y = file("do a size;new a;");
        for (int what = 0; what < 5; what++) {
            refuses(y, "it can't come, " + what, y.at(1, 0, what), 5);
            refuses(y, "nor the end, " + what, y.at(2, 2, what), 5);
            refuses(y, "no variable 3, " + what, y.at(1, 3, what), 2);
        }
        gives(y, "of the place, not of the variable", y.at(0, 1, 4), 1);
        HoldChecker none = new HoldChecker();
        refuses(none, "no variable", none.at(0, 0, 0), 2);
    }

    private static void withouts() {
        sentence("1 if it is ACCEPTED with a STATEMENT left out (with all within it), else 0 (2).");
        HoldChecker within = file("maybe{drop a;drop b;}else{drop c;}");
        int[] due = {1, 0, 0, 0};
        for (int i = 0; i < due.length; i++) {
            gives(within, "without " + i, within.without(i), due[i]);
        }
        HoldChecker single = file("loop{drop a;}new a;drop a;");
        int[] dueSingle = {1, 1, 0, 0};
        for (int i = 0; i < dueSingle.length; i++) {
            gives(single, "without " + i, single.without(i), dueSingle[i]);
        }
        HoldChecker fine = file("new a;do a begin;if a more{do a close;}else{do a size;}drop a;");
        int[] dueFine = {0, 0, 0, 0, 1, 1};
        for (int i = 0; i < dueFine.length; i++) {
            gives(fine, "accepted as it is, without " + i, fine.without(i), dueFine[i]);
        }
        HoldChecker last = file("new a;while a more{}");
        gives(last, "without the last", last.without(1), 1);
        gives(last, "without the first", last.without(0), 0);
        HoldChecker reached = file("do a size;drop b;");
        gives(reached, "what comes to be reached counts", reached.without(0), 0);
        gives(reached, "what was not reached counts not", reached.without(1), 0);
        HoldChecker inWhile = file("new a;do a begin;while a more{do a close;}");
        gives(inWhile, "the while goes round without it", inWhile.without(3), 1);
        HoldChecker most = loaded(times(39, "loop{}") + "maybe{}");
        gives(most, "the fortieth", most.without(39), 1);
        for (int number : OUTSIDE) {
            refuses(fine, "without " + number, fine.without(number), 2);
        }
        refuses(fine, "the end is none", fine.without(6), 2);
        refuses(most, "the end is none", most.without(40), 2);
        HoldChecker none = new HoldChecker();
        refuses(none, "none of none", none.without(0), 2);
        gives(within, "check stays", within.check(0), 0);
        gives(within, "many stays", within.many(2), 4);
    }

    private static void mends() {
        sentence("The first STATEMENT without which it is ACCEPTED (5: none, or it is ACCEPTED as it is).");
        HoldChecker first = file("drop a;");
        gives(first, "the first", first.mend(), 0);
        HoldChecker several = file("new a;drop a;drop a;");
        gives(several, "the first of two", several.mend(), 1);
        HoldChecker outer = file("new a;loop{maybe{drop b;}}");
        gives(outer, "the outer one ahead of the inner", outer.mend(), 1);
        HoldChecker last = loaded(FILE_KIND + "var a file;" + times(39, "loop{}") + "drop a;");
        gives(last, "the fortieth", last.mend(), 39);
        HoldChecker none = file("drop a;drop b;");
        refuses(none, "none", none.mend(), 5);
        HoldChecker end = file("new a;do a begin;new b;do b begin;");
        refuses(end, "none for the end", end.mend(), 5);
        HoldChecker accepted = file("new a;loop{}");
        refuses(accepted, "accepted as it is", accepted.mend(), 5);
        HoldChecker empty = new HoldChecker();
        refuses(empty, "nothing at all", empty.mend(), 5);
        gives(last, "check stays", last.check(1), 39);
    }

    public static void main(String[] args) {
        bits();
        comingTogether();
        wrongAtLast();
        wrongByHolding();
        wrongByOthers();
        newAndMove();
        shareAndLend();
        whatGoes();
        joinAndDrop();
        asking();
        checks();
        atPlaces();
        withouts();
        mends();
        finish("edges of CHECK");
    }
}
