import java.math.BigInteger;

/** The edges that the document names of KINDS and what their METHODS can do: sentence by sentence. */
public final class KindEdgesTest extends Asking {
    private static final int[] OUTSIDE = {LEAST, -2, -1, MOST};

    /** All that there can be: 4 KINDS with 6 STATES, the first with 6 METHODS, 6 VARIABLES, 40 STATEMENTS. */
    private static String mostOfAll() {
        StringBuilder text = new StringBuilder();
        for (char k = 'a'; k <= 'd'; k++) {
            text.append("kind ").append(k).append(" p q r s t u;");
        }
        for (char m = 'm'; m <= 'r'; m++) {
            text.append("look a ").append(m).append(" u;");
        }
        for (char v = 'u'; v <= 'z'; v++) {
            text.append("var ").append(v).append(" a;");
        }
        return text.append("end a u t s r q p;").append(times(40, "loop{}")).toString();
    }

    private static void manys() {
        sentence("How many KINDS (what 0), VARIABLES (1), STATEMENTS (2) (1).");
        HoldChecker empty = new HoldChecker();
        HoldChecker most = loaded(mostOfAll());
        int[] due = {4, 6, 40};
        for (int what = 0; what < 3; what++) {
            gives(empty, "none, " + what, empty.many(what), 0);
            gives(most, "the most, " + what, most.many(what), due[what]);
        }
        for (int what : OUTSIDE) {
            refuses(most, "many " + what, most.many(what), 1);
        }
        refuses(most, "many 3", most.many(3), 1);
        refuses(empty, "many 3 of none", empty.many(3), 1);
    }

    private static void kinds() {
        sentence("Of a KIND, what 0: STATES, 1: METHODS, 2: ends, as bits, 3: VARIABLES");
        HoldChecker most = loaded(mostOfAll());
        int[] first = {6, 6, 63, 6, 1, 0};
        int[] last = {6, 0, 0, 0, 1, 1};
        HoldChecker least = loaded("kind k s;");
        int[] one = {1, 0, 0, 0, 1, 1};
        for (int what = 0; what < 6; what++) {
            gives(most, "the first, " + what, most.kind(0, what), first[what]);
            gives(most, "the last, " + what, most.kind(3, what), last[what]);
            gives(least, "the least, " + what, least.kind(0, what), one[what]);
        }
        sentence("4: STATES that can come of the FIRST one (it too), as bits");
        due("it alone", loaded("kind k a b c;call k m c a;look k l a;test k t b a c;").kind(0, 4), 1);
        due("it alone, that comes of itself", loaded("kind k a b;call k m a a;").kind(0, 4), 1);
        due("by yes", loaded("kind k a b c;test k t a b a;").kind(0, 4), 3);
        due("by no", loaded("kind k a b c;test k t a a c;").kind(0, 4), 5);
        due("all, far ones told first", loaded("kind k a b c d e f;call k p e f;call k q d e;call k r c d;call k s b c;"
            + "call k t a b;").kind(0, 4), 63);
        due("all, by one method", loaded("kind k a b c d e f;call k m e f;call k m d e;call k m c d;call k m b c;"
            + "call k m a b;").kind(0, 4), 63);
        due("of this kind alone", loaded("kind k a b c;kind l a b c;call l m a c;").kind(0, 4), 1);
        sentence("5: of these, STATES from which no end can come, as bits (1; 2).");
        due("no end", loaded("kind k a b c;call k m a b;call k m b a;").kind(0, 5), 3);
        due("an end is none of them", loaded("kind k a b c;end k b;call k m a b;call k n a c;").kind(0, 5), 4);
        due("by no alone an end comes", loaded("kind k a b c;end k c;test k t a b c;test k t b b a;").kind(0, 5), 0);
        due("the first one", loaded("kind k a b;end k b;").kind(0, 5), 1);
        due("the last one", loaded("kind k a b c d e f;end k a b c d e;call k m a f;").kind(0, 5), 32);
        due("one that can't come is none of these", loaded("kind k a b;end k a;").kind(0, 5), 0);
        due("five methods off", loaded("kind k a b c d e f;end k f;call k p a b;call k p b c;call k p c d;call k p d e;"
            + "call k p e f;").kind(0, 5), 0);
        for (int number : OUTSIDE) {
            refuses(most, "what " + number, most.kind(0, number), 1);
            refuses(most, "both " + number, most.kind(number, number), 1);
            refuses(most, "kind " + number, most.kind(number, 0), 2);
        }
        refuses(most, "what 6", most.kind(0, 6), 1);
        refuses(most, "what 6 of none", most.kind(4, 6), 1);
        refuses(most, "kind 4", most.kind(4, 5), 2);
        refuses(least, "kind 1", least.kind(1, 0), 2);
        HoldChecker none = new HoldChecker();
        refuses(none, "kind 0 of none", none.kind(0, 0), 2);
    }

    private static void methods() {
        sentence("Of a METHOD, what 0: its sort (0 CALL, 1 TEST, 2 LOOK), 1: STATES in which it can be, as bits (1; 2).");
        HoldChecker x = loaded("kind k a b c d e f;call k m f a;test k t a a a;look k l a;look k l b;look k l c;"
            + "look k l d;look k l e;look k l f;kind n a;look n l a;");
        int[] states = {32, 1, 63};
        for (int m = 0; m < 3; m++) {
            gives(x, "sort of " + m, x.method(0, m, 0), m);
            gives(x, "states of " + m, x.method(0, m, 1), states[m]);
        }
        x.tell(0, 0, 5, true, NONE);
        gives(x, "in no state", x.method(0, 0, 1), 0);
        gives(x, "it is a method still", x.method(0, 0, 0), 0);
        gives(x, "they are three still", x.kind(0, 1), 3);
        for (int number : OUTSIDE) {
            refuses(x, "what " + number, x.method(0, 0, number), 1);
            refuses(x, "all " + number, x.method(number, number, number), 1);
            refuses(x, "method " + number, x.method(0, number, 0), 2);
            refuses(x, "kind " + number, x.method(number, 0, 1), 2);
        }
        refuses(x, "what 2", x.method(0, 0, 2), 1);
        refuses(x, "method 3", x.method(0, 3, 0), 2);
        refuses(x, "method 1 of the other", x.method(1, 1, 0), 2);
        gives(x, "method 0 of the other", x.method(1, 0, 0), 2);
        refuses(x, "kind 2", x.method(2, 0, 0), 2);
    }

    private static void whatComes() {
        sentence("The STATE that comes by a METHOD from a STATE (by yes or no; a CALL, a LOOK likewise by both) (2; 5: it"
            + " can't be there).");
        HoldChecker x = loaded("kind k a b c d e f;call k m a f;test k t f a e;look k l f;kind n a;look n l a;");
        int[][] due = {{0, 0, 5, 5}, {1, 5, 0, 4}, {2, 5, 5, 5}};
        for (int[] row : due) {
            gives(x, "method " + row[0] + " by yes", x.comes(0, row[0], row[1], true), row[2]);
            gives(x, "method " + row[0] + " by no", x.comes(0, row[0], row[1], false), row[3]);
        }
        refuses(x, "a call can't be there", x.comes(0, 0, 5, true), 5);
        refuses(x, "a test can't, by no", x.comes(0, 1, 0, false), 5);
        refuses(x, "a look can't", x.comes(0, 2, 4, true), 5);
        for (int number : OUTSIDE) {
            refuses(x, "state " + number, x.comes(0, 0, number, true), 2);
            refuses(x, "method " + number, x.comes(0, number, 0, true), 2);
            refuses(x, "kind " + number, x.comes(number, 0, 0, false), 2);
        }
        refuses(x, "state 6", x.comes(0, 0, 6, true), 2);
        refuses(x, "method 3", x.comes(0, 3, 0, true), 2);
        refuses(x, "kind 2", x.comes(2, 0, 0, true), 2);
        refuses(x, "state 1 of one", x.comes(1, 0, 1, true), 2);
        refuses(x, "method 1 of one", x.comes(1, 1, 0, true), 2);
        gives(x, "the one of it", x.comes(1, 0, 0, true), 0);
    }

    /** STATES a to f, a CALL m 0, a TEST t 1, a LOOK l 2, each in b alone. */
    private static final String TELLING = "kind k a b c d e f;call k m b a;test k t b c d;look k l b;kind n a;look n l a;";

    private static void tellsAnother() {
        sentence("A METHOD does another thing: by yes or no (both, unless it is a TEST) another STATE comes");
        for (int told = 0; told < 2; told++) {
            boolean yes = told == 0;
            HoldChecker x = loaded(TELLING);
            gives(x, "a call", x.tell(0, 0, 1, yes, 5), 0);
            gives(x, "by yes", x.comes(0, 0, 1, true), 5);
            gives(x, "by no", x.comes(0, 0, 1, false), 5);
            gives(x, "a test", x.tell(0, 1, 1, yes, 5), yes ? 2 : 3);
            gives(x, "by yes", x.comes(0, 1, 1, true), yes ? 5 : 2);
            gives(x, "by no", x.comes(0, 1, 1, false), yes ? 3 : 5);
            gives(x, "to the first state", x.tell(0, 1, 1, yes, 0), 5);
            gives(x, "which comes", x.comes(0, 1, 1, yes), 0);
        }
        sentence("NONE: it can't be there (by none of both): the one that came (NONE)");
        for (int told = 0; told < 2; told++) {
            boolean yes = told == 0;
            int[] came = {0, yes ? 2 : 3, 1};
            for (int m = 0; m < 3; m++) {
                HoldChecker x = loaded(TELLING);
                gives(x, "taken away, " + m, x.tell(0, m, 1, yes, NONE), came[m]);
                refuses(x, "by yes", x.comes(0, m, 1, true), 5);
                refuses(x, "by no", x.comes(0, m, 1, false), 5);
                gives(x, "in no state", x.method(0, m, 1), 0);
                gives(x, "given again: NONE came", x.tell(0, m, 1, yes, 1), NONE);
                gives(x, "it can be there", x.method(0, m, 1), 2);
            }
        }
        HoldChecker x = loaded(TELLING);
        gives(x, "a call where it couldn't be", x.tell(0, 0, 5, false, 0), NONE);
        gives(x, "by yes", x.comes(0, 0, 5, true), 0);
        gives(x, "by no", x.comes(0, 0, 5, false), 0);
        gives(x, "and where it could", x.method(0, 0, 1), 34);
    }

    private static void tellsRefused() {
        sentence("(1: to below NONE; 2; 4; 5: a LOOK, unless to is NONE or state");
        HoldChecker x = loaded(TELLING);
        refuses(x, "to -2", x.tell(0, 0, 1, true, -2), 1);
        refuses(x, "to the least", x.tell(0, 0, 1, true, LEAST), 1);
        refuses(x, "to -2 of no kind", x.tell(2, 0, 0, true, -2), 1);
        for (int number : OUTSIDE) {
            refuses(x, "kind " + number, x.tell(number, 0, 0, true, 0), 2);
            refuses(x, "method " + number, x.tell(0, number, 0, true, 0), 2);
            refuses(x, "state " + number, x.tell(0, 0, number, true, NONE), 2);
        }
        refuses(x, "to 6", x.tell(0, 0, 1, true, 6), 2);
        refuses(x, "to the most", x.tell(0, 0, 1, true, MOST), 2);
        refuses(x, "to 6, a look", x.tell(0, 2, 1, true, 6), 2);
        refuses(x, "to 1 of one", x.tell(1, 0, 0, true, 1), 2);
        refuses(x, "kind 2", x.tell(2, 0, 0, true, 0), 2);
        refuses(x, "method 3", x.tell(0, 3, 0, true, NONE), 2);
        refuses(x, "state 6", x.tell(0, 0, 6, true, 0), 2);
        refuses(x, "a call so already, by yes", x.tell(0, 0, 1, true, 0), 4);
        refuses(x, "a call so already, by no", x.tell(0, 0, 1, false, 0), 4);
        refuses(x, "a test so already, by yes", x.tell(0, 1, 1, true, 2), 4);
        refuses(x, "a test so already, by no", x.tell(0, 1, 1, false, 3), 4);
        refuses(x, "a look so already", x.tell(0, 2, 1, true, 1), 4);
        for (int m = 0; m < 3; m++) {
            refuses(x, "it can't be there already, " + m, x.tell(0, m, 0, m == 0, NONE), 4);
        }
        refuses(x, "a look that changes", x.tell(0, 2, 1, true, 0), 5);
        refuses(x, "a look that changes, by no", x.tell(0, 2, 1, false, 5), 5);
        refuses(x, "a look that would change where it can't be", x.tell(0, 2, 0, true, 1), 5);
        sameAnswers("nothing was changed", () -> {
            HoldChecker y = loaded(TELLING);
            y.tell(0, 0, 1, true, 6);
            y.tell(0, 0, 1, true, -2);
            y.tell(0, 1, 1, true, 2);
            y.tell(0, 2, 0, true, 1);
            y.tell(0, 2, 1, true, 0);
            return y;
        }, () -> loaded(TELLING));
        gives(x, "a look where it couldn't be", x.tell(0, 2, 5, true, 5), NONE);
        gives(x, "stays there", x.comes(0, 2, 5, false), 5);
        gives(x, "a look taken away", x.tell(0, 2, 5, false, NONE), 5);
        sentence("of a TEST that can't be there both become to); STATUS tells NONE from -1.");
        for (int told = 0; told < 2; told++) {
            HoldChecker y = loaded(TELLING);
            gives(y, "NONE came, with STATUS 0", y.tell(0, 1, 4, told == 0, 5), NONE);
            gives(y, "by yes", y.comes(0, 1, 4, true), 5);
            gives(y, "by no", y.comes(0, 1, 4, false), 5);
            refuses(y, "-1 with STATUS 4", y.tell(0, 1, 4, told != 0, 5), 4);
        }
    }

    /** What is told is so for all that is asked behind it. */
    private static void tellsForAll() {
        sentence("A METHOD does another thing");
        HoldChecker x = file("new a;do a begin;do a close;");
        gives(x, "accepted", x.check(0), 1);
        gives(x, "no path is wrong", x.paths(1), 0);
        gives(x, "left shut", x.left(0), 1);
        gives(x, "without the last one", x.without(2), 0);
        gives(x, "without begin", x.without(1), 0);
        refuses(x, "nothing to mend", x.mend(), 5);
        gives(x, "told of begin", x.tell(0, 0, 0, true, 0), 1);
        gives(x, "refused", x.check(1), 2);
        gives(x, "accepted without the last one", x.without(2), 1);
        gives(x, "which mends it", x.mend(), 2);
        gives(x, "told back", x.tell(0, 0, 0, true, 1), 0);
        gives(x, "as before without it", x.without(2), 0);
        gives(x, "told of close", x.tell(0, 1, 1, true, 2), 0);
        gives(x, "bad can come", x.kind(0, 4), 7);
        gives(x, "no end comes of it", x.kind(0, 5), 4);
        gives(x, "from open by the test", x.towards(0, 1), 3);
        gives(x, "refused", x.check(2), 5);
        gives(x, "a path is wrong", x.paths(3), 5);
        gives(x, "left bad", x.left(0), 4);
        gives(x, "truly bad", x.truly(3, 0, 1), 4);
        gives(x, "a run goes wrong", x.run(0, 1), 5);
        gives(x, "no end now", x.rows(0, 2, true), 2);
        gives(x, "told again", x.tell(0, 1, 1, true, NONE), 2);
        gives(x, "refused at it", x.check(1), 2);
        gives(x, "by its state", x.at(2, 0, 4), 4);
        gives(x, "nothing comes behind it", x.check(4), 3);
        gives(x, "never comes none: statements all do", x.never(NONE), 0);
        gives(x, "told back", x.tell(0, 1, 1, false, 0), NONE);
        sameAnswers("as before", () -> {
            HoldChecker y = file("new a;do a begin;do a close;");
            y.check(0);
            y.paths(0);
            y.mend();
            y.tell(0, 1, 1, true, 2);
            y.check(0);
            y.paths(0);
            y.mend();
            y.tell(0, 1, 1, true, 0);
            return y;
        }, () -> file("new a;do a begin;do a close;"));
    }

    /** A KIND with all six METHODS does nothing that a METHOD of the next KIND does. */
    private static void ownMethods() {
        sentence("A METHOD is a CALL, a TEST, or a LOOK (by its first LINE), of one KIND");
        String six = "";
        for (char m = 'm'; m <= 'r'; m++) {
            six += "look k " + m + " a;look k " + m + " b;";
        }
        HoldChecker x = loaded("kind k a b c;end k c;" + six + "kind l a b c;call l m a c;call l m b b;");
        gives(x, "no state comes", x.kind(0, 4), 1);
        gives(x, "no end comes", x.kind(0, 5), 1);
        refuses(x, "none to the end", x.toEnd(0, 0), 5);
        refuses(x, "no way", x.towards(0, 0), 5);
        gives(x, "alike", x.alike(0, 0, 1), 1);
        gives(x, "rows", x.rows(0, 2, false), 36);
        gives(x, "the next one's", x.kind(1, 4), 5);
    }

    private static void toEnds() {
        sentence("The fewest METHODS (CALLS, TESTS) from a STATE to an end (0: it is one) (2; 5).");
        HoldChecker x = loaded("kind k a b c d e f;end k f;call k m a b;call k m b c;call k m c d;call k m d e;call k m e f;"
            + "look k l a;call k m f a;");
        for (int s = 0; s < 6; s++) {
            gives(x, "from " + s, x.toEnd(0, s), 5 - s);
        }
        x.tell(0, 0, 1, true, 4);
        gives(x, "a shorter way", x.toEnd(0, 0), 3);
        HoldChecker byYes = loaded("kind k a b c;end k c;test k t a b a;test k t b c b;");
        gives(byYes, "by yes alone, twice", byYes.toEnd(0, 0), 2);
        HoldChecker byNo = loaded("kind k a b c;end k c;test k t a a b;test k t b b c;");
        gives(byNo, "by no alone, twice", byNo.toEnd(0, 0), 2);
        HoldChecker y = loaded("kind k a b c d e f;end k d;test k t a b c;call k m b d;test k t c c d;look k l d;call k m e e;"
            + "look k l f;kind n a;kind p a;end p a;");
        gives(y, "by yes or by no, then one more", y.toEnd(0, 0), 2);
        gives(y, "a test by no", y.toEnd(0, 2), 1);
        gives(y, "an end that nothing comes of", y.toEnd(0, 3), 0);
        refuses(y, "itself alone", y.toEnd(0, 4), 5);
        refuses(y, "a look alone", y.toEnd(0, 5), 5);
        refuses(y, "no end at all", y.toEnd(1, 0), 5);
        gives(y, "the only state", y.toEnd(2, 0), 0);
        for (int number : OUTSIDE) {
            refuses(y, "state " + number, y.toEnd(0, number), 2);
            refuses(y, "kind " + number, y.toEnd(number, 0), 2);
        }
        refuses(y, "state 6", y.toEnd(0, 6), 2);
        refuses(y, "state 1 of one", y.toEnd(1, 1), 2);
        refuses(y, "kind 3", y.toEnd(3, 0), 2);
    }

    private static void towardsEnds() {
        sentence("The first METHOD on such a way, of several the least (2; 5: none, or it is an end).");
        HoldChecker x = loaded("kind k a b c d e;end k d;look k l a;call k p a a;call k q a e;test k r a e b;call k s a b;"
            + "call k q b d;call k p d d;call k p c c;test k t e a d;kind n a;");
        gives(x, "the least of three", x.towards(0, 0), 2);
        gives(x, "the only one", x.towards(0, 1), 2);
        refuses(x, "none", x.towards(0, 2), 5);
        refuses(x, "an end, though a method can be", x.towards(0, 3), 5);
        gives(x, "the last one, by no", x.towards(0, 4), 5);
        refuses(x, "no end at all", x.towards(1, 0), 5);
        gives(x, "told another", x.tell(0, 2, 0, true, 0), 4);
        gives(x, "by yes it goes on", x.towards(0, 0), 3);
        gives(x, "told", x.tell(0, 3, 0, true, 0), 4);
        gives(x, "by no, too", x.towards(0, 0), 3);
        gives(x, "told", x.tell(0, 3, 0, false, 0), 1);
        gives(x, "by the last", x.towards(0, 0), 4);
        HoldChecker far = loaded("kind k a b c;end k c;call k m a b;call k n a c;call k m b c;");
        gives(far, "the fewest, not the least method", far.towards(0, 0), 1);
        for (int number : OUTSIDE) {
            refuses(x, "state " + number, x.towards(0, number), 2);
            refuses(x, "kind " + number, x.towards(number, 0), 2);
        }
        refuses(x, "state 5", x.towards(0, 5), 2);
        refuses(x, "kind 2", x.towards(2, 0), 2);
    }

    private static void likeIs(HoldChecker x, int s, int o, int due) {
        gives(x, s + " and " + o, x.alike(0, s, o), due);
        gives(x, o + " and " + s, x.alike(0, o, s), due);
    }

    private static void likes() {
        sentence("1 if two STATES are ALIKE: both ends or neither, the same METHODS can be, and what comes of them, by yes"
            + " and by no, is ALIKE again, else 0 (2).");
        HoldChecker bare = loaded("kind k a b c d;end k b d;");
        likeIs(bare, 0, 2, 1);
        likeIs(bare, 1, 3, 1);
        likeIs(bare, 0, 1, 0);
        likeIs(bare, 2, 2, 1);
        HoldChecker methods = loaded("kind k a b c d e f;call k m a a;call k m b b;look k l c;look k l d;call k m d d;"
            + "call k n e e;");
        likeIs(methods, 0, 1, 1);
        likeIs(methods, 0, 2, 0);
        likeIs(methods, 2, 3, 0);
        likeIs(methods, 0, 3, 0);
        likeIs(methods, 0, 4, 0);
        likeIs(methods, 2, 5, 0);
        likeIs(methods, 3, 3, 1);
        HoldChecker far = loaded("kind k a b c d e f;call k m a b;call k m b c;call k m d e;call k m e f;");
        likeIs(far, 0, 3, 1);
        likeIs(far, 1, 4, 1);
        likeIs(far, 2, 5, 1);
        likeIs(far, 0, 1, 0);
        far.tell(0, 0, 5, true, 0);
        likeIs(far, 0, 3, 0);
        HoldChecker chain = loaded("kind k a b c d e f;end k f;call k m a b;call k m b c;call k m c d;call k m d e;"
            + "call k m e e;call k m f f;");
        likeIs(chain, 0, 4, 1);
        likeIs(chain, 0, 5, 0);
        chain.tell(0, 0, 4, true, 5);
        likeIs(chain, 0, 1, 0);
        likeIs(chain, 3, 4, 0);
        HoldChecker round = loaded("kind k a b c d e f;call k m a b;call k m b c;call k m c a;call k m d e;call k m e d;"
            + "call k m f f;");
        likeIs(round, 0, 3, 1);
        likeIs(round, 2, 5, 1);
        HoldChecker tests = loaded("kind k a b c d e f;end k f;test k t a e e;test k t b e f;test k t c f e;test k t d e f;");
        likeIs(tests, 1, 3, 1);
        likeIs(tests, 0, 1, 0);
        likeIs(tests, 0, 2, 0);
        likeIs(tests, 1, 2, 0);
        for (int number : OUTSIDE) {
            refuses(tests, "state " + number, tests.alike(0, number, 0), 2);
            refuses(tests, "other " + number, tests.alike(0, 0, number), 2);
            refuses(tests, "both " + number, tests.alike(0, number, number), 2);
            refuses(tests, "kind " + number, tests.alike(number, 0, 0), 2);
        }
        refuses(bare, "state 4", bare.alike(0, 4, 0), 2);
        refuses(bare, "other 4", bare.alike(0, 0, 4), 2);
        refuses(bare, "both 4", bare.alike(0, 4, 4), 2);
        refuses(bare, "kind 1", bare.alike(1, 0, 0), 2);
    }

    private static int power(int factor, int times, int base) {
        BigInteger modulus = BigInteger.valueOf(1000000007);
        return BigInteger.valueOf(base).pow(times).multiply(BigInteger.valueOf(factor)).mod(modulus).intValue();
    }

    private static void rowsOfMethods() {
        sentence("How many rows of n METHODS (0 to 12) can be from the FIRST STATE on");
        HoldChecker chain = loaded("kind k a b c;call k m a b;call k m b c;look k l c;kind n a b;end n a;");
        int[] due = {1, 1, 1, 1, 1};
        for (int n = 0; n < due.length; n++) {
            gives(chain, "a chain, then a look, " + n, chain.rows(0, n, false), due[n]);
        }
        gives(chain, "twelve", chain.rows(0, 12, false), 1);
        gives(chain, "no methods, none of them", chain.rows(1, 0, false), 1);
        gives(chain, "no methods, one of them", chain.rows(1, 1, false), 0);
        gives(chain, "no methods, twelve", chain.rows(1, 12, true), 0);
        refuses(chain, "n -1", chain.rows(0, -1, true), 1);
        refuses(chain, "n 13", chain.rows(0, 13, false), 1);
        refuses(chain, "n 13 of none", chain.rows(9, 13, false), 1);
        for (int number : OUTSIDE) {
            refuses(chain, "n " + number, chain.rows(0, number, false), 1);
            refuses(chain, "kind " + number, chain.rows(number, 0, false), 2);
        }
        refuses(chain, "kind 2", chain.rows(2, 12, true), 2);
        sentence("those by yes and by no of a TEST two (with end: only those that come to an end), modulo 1,000,000,007"
            + " (1; 2).");
        HoldChecker one = loaded("kind k a;test k t a a a;end k a;");
        gives(one, "two, though to one state", one.rows(0, 1, false), 2);
        gives(one, "all to an end", one.rows(0, 12, true), 4096);
        HoldChecker ended = loaded("kind k a b c;end k b;call k m a b;call k n a c;test k t b a c;");
        int[] all = {1, 2, 2, 2, 2};
        int[] toEnd = {0, 1, 0, 1, 0};
        for (int n = 0; n < all.length; n++) {
            gives(ended, "rows of " + n, ended.rows(0, n, false), all[n]);
            gives(ended, "rows to an end of " + n, ended.rows(0, n, true), toEnd[n]);
        }
        String tests = "";
        for (char m = 'm'; m <= 'r'; m++) {
            tests += "test k " + m + " a a b;test k " + m + " b b a;";
        }
        HoldChecker most = loaded("kind k a b;end k b;" + tests);
        for (int n = 1; n <= 12; n++) {
            gives(most, "twelve ways each time, " + n, most.rows(0, n, false), power(1, n, 12));
            gives(most, "half of them to the end, " + n, most.rows(0, n, true), power(6, n - 1, 12));
        }
        gives(most, "the first that is above: 12 to the 9th", most.rows(0, 9, false), 159780317);
        HoldChecker calls = loaded("kind k a;" + "call k m a a;call k n a a;call k o a a;look k p a;look k q a;look k r a;");
        gives(calls, "six ways each time", calls.rows(0, 12, false), power(1, 12, 6));
    }

    public static void main(String[] args) {
        manys();
        kinds();
        methods();
        whatComes();
        tellsAnother();
        tellsRefused();
        tellsForAll();
        ownMethods();
        toEnds();
        towardsEnds();
        likes();
        rowsOfMethods();
        finish("edges of kinds");
    }
}
