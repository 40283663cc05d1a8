/** The edges that the document names of texts and their FAULTS, of feed, load and fault: sentence by sentence. */
public final class TextEdgesTest extends Asking {
    private static final String[] RESERVED = {
        "kind", "end", "call", "test", "look", "var", "new", "move", "share", "lend", "join", "drop", "do",
        "if", "else", "while", "maybe", "loop",
    };
    private static final String TWO = "kind a b;kind c d;var x a;var y a;var z c;";
    private static final String REFUSED = FILE + "new a;do a begin;maybe{share b a;}drop a;loop{}new c;do c close;";
    private static final int BLANKS = 0x20202020;

    private static HoldChecker fed(int count) {
        HoldChecker x = new HoldChecker();
        for (int i = 0; i < count; i++) {
            x.feed(BLANKS, BLANKS, BLANKS, BLANKS, BLANKS);
        }
        return x;
    }

    private static void isFine(String text, int statements) {
        HoldChecker x = new HoldChecker();
        feed(x, text);
        gives(x, "load of " + text, x.load(text.length()), statements);
        due("fault of " + text, x.fault(0), 0);
    }

    // ---- TOKENS

    private static void longestText() {
        sentence("A TEXT of at most 900 bytes.");
        String most = times(894, " ") + "loop{}";
        isFine(most, 1);
        faulty(2, times(895, "\n") + "loop{^");
        HoldChecker x = new HoldChecker();
        feed(x, most);
        refuses(x, "all but the last byte", x.load(899), 9);
        due("the end is the text's length", x.fault(1), 899);
    }

    private static void longestTokens() {
        sentence("TOKENS, as long as they go, between them blanks (10, 32)");
        isFine("kind a b;var x a;new x;", 1);
        faulty(2, "kind a b;var x a;^newx;");
        faulty(3, "kind a b;var x a;new ^xx;");
        isFine("kind\na\nb\n;\nvar\nx\na\n;\nnew\nx\n;\n", 1);
        isFine("  kind   a   b  ;  \n \n var x a ; new x ; ", 1);
        isFine("loop{}loop{maybe{}else{}}", 3);
        isFine("loop {\n} loop\n{ }", 2);
        isFine(" ", 0);
        isFine("\n", 0);
        isFine(times(900, "\n"), 0);
        int[] noBlanks = {0, 1, 9, 11, 12, 13, 31, 33, 42, 127, 128 + 10, 128 + 32, 255};
        for (int no : noBlanks) {
            faulty(1, "kind a^" + (char) no + "b;");
            faulty(1, "loop{}^" + (char) no);
        }
    }

    private static void wordLengths() {
        sentence("WORDS (1 to 8 small letters; a longer one is none)");
        isFine("kind a z;var z a;new z;", 1);
        isFine("kind abcdefgh zzzzzzzz aaaaaaaa;var yyyyyyyy abcdefgh;new yyyyyyyy;", 1);
        faulty(1, "kind ^abcdefghi b;");
        faulty(1, "kind a ^aaaaaaaaa;");
        faulty(1, "kind abcdefgh b;end ^abcdefghi b;");
        faulty(1, "kind a b;var x a;new ^xxxxxxxxxxxxxxxxxxxxxxxxxxxxxxxxxxxxxxxxxxxxxxxxxxxxxxxxxxxxxxxxx;");
        faulty(1, "^kindkindk a b;");
        faulty(1, "loop{}^looplooplo");
        isFine("kind abcdefgh abcdefgi abcdefg bbcdefgh;", 0);
        isFine("kind a a aa aaa aaaaaaa aaaaaaaa;", 0);
        HoldChecker cut = new HoldChecker();
        feed(cut, "kind a bcdefghijk;");
        refuses(cut, "eight letters up to the end of the text", cut.load(15), 9);
        due("are a word", cut.fault(0), 2);
        due("behind which the text ends", cut.fault(1), 15);
    }

    private static void signs() {
        sentence("the SIGNS ; { }");
        for (int sign = 0; sign < 256; sign++) {
            boolean letter = sign >= 'a' && sign <= 'z';
            if (sign == 10 || sign == 32) {
                isFine("" + (char) sign, 0);
            } else if (letter || sign == ';' || sign == '{' || sign == '}') {
                faulty(2, "^" + (char) sign);
            } else if (sign != '^') {
                faulty(1, "^" + (char) sign);
                faulty(1, "kind a b^" + (char) sign);
            }
        }
        HoldChecker x = new HoldChecker();
        feed(x, "kind a ^;");
        refuses(x, "the sign 94", x.load(9), 9);
        due("fault", x.fault(0), 1);
        due("place", x.fault(1), 7);
    }

    // ---- LINES

    private static void linesThenStatements() {
        sentence("A TEXT: {LINE} then {STATEMENT}");
        isFine("", 0);
        isFine("kind a b;", 0);
        isFine("loop{}", 1);
        isFine("kind a b;var x a;end a b;look a m b;new x;", 1);
        String[] lines = {"kind c d;", "end a b;", "call a m b b;", "test a m b b b;", "look a m b;", "var y a;"};
        for (String line : lines) {
            isFine("kind a b;var x a;" + line + "new x;", 1);
            faulty(2, "kind a b;var x a;new x;^" + line);
            faulty(2, "kind a b;loop{^" + line + "}");
            faulty(2, "kind a b;loop{}^" + line);
        }
    }

    private static void anyNumberOfTimes() {
        sentence("({ } any number of times, [ ] once or not)");
        for (int times = 0; times <= 5; times++) {
            isFine("kind k s" + " t u v w x".substring(0, 2 * times) + ";", 0);
            isFine("kind k s;end k s" + times(times, " s") + ";" + times(times, "end k s;"), 0);
            isFine(times(times, "loop{}"), times);
            isFine("loop{" + times(times, "maybe{}") + "}", times + 1);
        }
        isFine("maybe{}", 1);
        isFine("maybe{}else{}", 1);
        faulty(2, "maybe{}else{}^else{}");
    }

    private static void lineForms() {
        sentence("LINE: kind NAME STATE {STATE} ;");
        isFine("kind a b;", 0);
        faulty(2, "kind ^;");
        faulty(2, "kind a ^;");
        faulty(2, "kind a b^}");
        faulty(2, "kind a b;^;");
        faulty(2, "kind^");
        sentence("end KIND STATE {STATE} ;");
        faulty(2, "kind a b;end^;");
        faulty(2, "kind a b;end a^;");
        faulty(2, "kind a b;end a b^{");
        isFine("kind a b c;end a b c b c b c b c;", 0);
        sentence("call KIND NAME STATE STATE ;");
        faulty(2, "kind a b;call^;");
        faulty(2, "kind a b;call a^;");
        faulty(2, "kind a b;call a m^;");
        faulty(2, "kind a b;call a m b^;");
        faulty(2, "kind a b;call a m b b ^b;");
        sentence("test KIND NAME STATE STATE STATE ;");
        faulty(2, "kind a b;test^;");
        faulty(2, "kind a b;test a m^;");
        faulty(2, "kind a b;test a m b b^;");
        faulty(2, "kind a b;test a m b b b ^b;");
        sentence("look KIND NAME STATE ;");
        faulty(2, "kind a b;look a m^;");
        faulty(2, "kind a b;look a m b ^b;");
        sentence("var NAME KIND ;");
        faulty(2, "kind a b;var^;");
        faulty(2, "kind a b;var x^;");
        faulty(2, "kind a b;var x a ^a;");
    }

    private static void reservedWords() {
        sentence("NAMES, STATES are WORDS but kind, end, call, test, look, var, new, move, share, lend, join, drop,"
            + " do, if, else, while, maybe, loop.");
        for (String word : RESERVED) {
            faulty(2, "kind ^" + word + " b;");
            faulty(2, "kind a ^" + word + ";");
            faulty(2, "kind a b ^" + word + ";");
            faulty(2, "kind a b;end ^" + word + " b;");
            faulty(2, "kind a b;end a ^" + word + ";");
            faulty(2, "kind a b;call a ^" + word + " b b;");
            faulty(2, "kind a b;test a m b ^" + word + " b;");
            faulty(2, "kind a b;var ^" + word + " a;");
            faulty(2, "kind a b;var x ^" + word + ";");
            faulty(2, TWO + "new ^" + word + ";");
            faulty(2, TWO + "join x ^" + word + ";");
            faulty(2, TWO + "do x ^" + word + ";");
            String longer = word + "s";
            String shorter = word.substring(0, word.length() - 1);
            isFine("kind " + longer + " " + longer + " " + shorter + ";var " + longer + " " + longer + ";call " + longer
                + " " + longer + " " + longer + " " + shorter + ";new " + longer + ";do " + longer + " " + longer + ";", 2);
        }
    }

    // ---- at most

    private static void mostKinds() {
        sentence("At most 4 KINDS");
        String four = "kind a b;kind c b;kind d b;kind e b;";
        isFine(four, 0);
        due("four kinds", loaded(four).many(0), 4);
        isFine(four + "var x e;new x;", 1);
        faulty(6, four + "^kind f b;");
        faulty(6, four + "^kind a b;");
    }

    private static void mostStates() {
        sentence("with 6 STATES (unlike ones; the FIRST one is that of a new thing)");
        String six = "kind a b c d e f g;";
        due("six states", loaded(six).kind(0, 0), 6);
        due("six of each of four", loaded(six + "kind b b c d e f g;kind c b c d e f g;kind d b c d e f g;")
            .kind(3, 0), 6);
        faulty(6, "kind a b c d e f g ^h;");
        faulty(6, six + "kind b b c d e f g ^h i j;");
        faulty(4, "kind a b c d ^b;");
        HoldChecker x = loaded("kind a z y;end a y z;var x a;new x;");
        atIs(x, 1, 0, 8, 1);
        trulyIs(x, 1, 0, 8, 1);
    }

    private static void mostMethods() {
        sentence("6 METHODS each");
        String six = "";
        for (char m = 'm'; m <= 'r'; m++) {
            six += "look K " + m + " s;";
        }
        String all = "";
        for (char k = 'a'; k <= 'd'; k++) {
            all += "kind " + k + " s t;" + six.replace('K', k);
        }
        due("six of the first", loaded(all).kind(0, 1), 6);
        due("six of the last", loaded(all).kind(3, 1), 6);
        isFine(all + "look a r t;look d m t;", 0);
        faulty(6, all + "look a ^s t;");
        faulty(6, all + "call d ^s t t;");
    }

    private static void mostVariables() {
        sentence("6 VARIABLES");
        String six = "kind k s;var a k;var b k;var c k;var d k;var e k;var f k;";
        due("six", loaded(six).many(1), 6);
        isFine(six + "new f;share a f;", 2);
        faulty(6, six + "^var g k;");
        faulty(6, six + "^var a k;");
        faulty(6, six + "kind l s;^var g l;");
    }

    private static void mostStatements() {
        sentence("40 STATEMENTS (those within others, too)");
        isFine(times(40, "loop{}"), 40);
        faulty(6, times(40, "loop{}") + "^maybe{}");
        isFine("loop{" + times(39, "maybe{}") + "}", 40);
        faulty(6, "loop{" + times(39, "maybe{}") + "^loop{}}");
        faulty(6, "loop{" + times(39, "maybe{}") + "}^loop{}");
        isFine("maybe{" + times(19, "loop{}") + "}else{" + times(20, "loop{}") + "}", 40);
        faulty(6, times(40, "loop{}") + "^new x;");
    }

    private static void mostInOneAnother() {
        sentence("5 of them one in another");
        isFine("loop{maybe{loop{maybe{loop{}}}}}", 5);
        isFine("loop{maybe{loop{maybe{loop{}loop{}}else{maybe{}}}}}loop{}", 8);
        faulty(6, "loop{maybe{loop{maybe{loop{^loop{}}}}}}");
        faulty(6, "loop{maybe{}else{loop{maybe{loop{^new x;}}}}}");
        faulty(6, "kind k s;test k t s s s;var v k;if v t{while v t{if v t{}else{maybe{}else{loop{^if v t{}}}}}}");
    }

    private static void numbered() {
        sentence("All are numbered from 0 on as they are told (METHODS of a KIND by the LINE that first names them).");
        HoldChecker x = loaded("kind a p q;kind b r s t;look a m q;look b o r;call a n p q;look a m p;test b m t r s;"
            + "var u b;var v a;new v;");
        gives(x, "kind 0 has two states", x.kind(0, 0), 2);
        gives(x, "kind 1 has three", x.kind(1, 0), 3);
        gives(x, "method 0 of kind 0 is m", x.method(0, 0, 0), 2);
        gives(x, "in both states", x.method(0, 0, 1), 3);
        gives(x, "method 1 of it is n", x.method(0, 1, 0), 0);
        gives(x, "method 0 of kind 1 is o", x.method(1, 0, 1), 1);
        gives(x, "method 1 of it is m", x.method(1, 1, 0), 1);
        gives(x, "from its third state, by no", x.comes(1, 1, 2, false), 1);
        gives(x, "variable 0", x.variable(0), 1);
        gives(x, "variable 1", x.variable(1), 0);
        gives(x, "that of statement 0", x.statement(0, 1), 1);
    }

    private static void ends() {
        sentence("end: STATES in which a thing may be left (told twice: it is so).");
        due("none is told", loaded("kind a b c;").kind(0, 2), 0);
        due("twice in one line", loaded("kind a b c;end a c c;").kind(0, 2), 2);
        due("twice in two lines", loaded("kind a b c;end a c;end a b c;end a c;").kind(0, 2), 3);
        due("all six", loaded("kind a b c d e f g;end a g f e d c b;").kind(0, 2), 63);
        due("of that kind alone", loaded("kind a b c;kind c b d;end c d;").kind(0, 2), 0);
        due("it may be left there", loaded("kind a b;end a b;var x a;new x;drop x;").check(0), 1);
        due("not there", loaded("kind a b;var x a;new x;drop x;").check(2), 5);
    }

    private static void sortsOfMethods() {
        sentence("A METHOD is a CALL, a TEST, or a LOOK (by its first LINE), of one KIND");
        String states = "kind k s t;kind l s t;";
        String[] first = {"call k m s s;", "test k m s s s;", "look k m s;"};
        String[] second = {"call k ^m t t;", "test k ^m t t t;", "look k ^m t;"};
        for (int sort = 0; sort < 3; sort++) {
            for (int other = 0; other < 3; other++) {
                String line = second[other].replace("^", "");
                if (sort == other) {
                    HoldChecker x = loaded(states + first[sort] + line);
                    gives(x, "sort", x.method(0, 0, 0), sort);
                    gives(x, "in both", x.method(0, 0, 1), 3);
                } else {
                    faulty(5, states + first[sort] + second[other]);
                    HoldChecker x = loaded(states + first[sort] + line.replace(" k ", " l "));
                    gives(x, "another kind's is another one", x.method(1, 0, 0), other);
                    gives(x, "of its own states", x.method(1, 0, 1), 2);
                    gives(x, "the first one's sort", x.method(0, 0, 0), sort);
                }
            }
        }
    }

    private static void oneLineForEachState() {
        sentence("each of its LINES tells what it does in one STATE, once");
        String states = "kind k s t;";
        faulty(4, states + "call k m s t;call k m ^s t;");
        faulty(4, states + "call k m s t;call k m t s;call k m ^s s;");
        faulty(4, states + "test k m t s s;test k m ^t t t;");
        faulty(4, states + "look k m t;look k m s;look k m ^t;");
        isFine(states + "call k m s t;call k n s t;kind l s t;call l m s t;", 0);
        sentence("call: the STATE that comes; test: the STATE that comes if it says yes, and if no; look: it stays."
            + " In all other STATES it can't be.");
        HoldChecker x = loaded("kind k p q r s;call k m q s;test k t q r p;look k l r;");
        int[][] due = {{NONE, 3, NONE, NONE}, {NONE, 2, NONE, NONE}, {NONE, NONE, 2, NONE}};
        for (int m = 0; m < 3; m++) {
            for (int s = 0; s < 4; s++) {
                int no = m == 1 && s == 1 ? 0 : due[m][s];
                due("method " + m + " from " + s + " by yes", x.comes(0, m, s, true), due[m][s]);
                due("method " + m + " from " + s + " by no", x.comes(0, m, s, false), no);
            }
            gives(x, "states of " + m, x.method(0, m, 1), m == 2 ? 4 : 2);
        }
    }

    // ---- STATEMENTS

    private static void statementForms() {
        sentence("STATEMENT: new VAR ; or move VAR VAR ; or share VAR VAR ; or lend VAR VAR ; or join VAR VAR ; or drop"
            + " VAR ; or do VAR METHOD ;");
        String all = TWO + "call a m b b;test a t b b b;";
        String[] one = {"new", "drop"};
        for (String word : one) {
            isFine(all + word + " x;", 1);
            faulty(2, all + word + "^;");
            faulty(2, all + word + " x ^y;");
            faulty(2, all + word + " x^{}");
            faulty(2, all + word + " x^");
        }
        String[] two = {"move", "share", "lend", "join"};
        for (String word : two) {
            isFine(all + word + " x y;", 1);
            faulty(2, all + word + "^;");
            faulty(2, all + word + " x^;");
            faulty(2, all + word + " x y ^x;");
        }
        isFine(all + "do x m;", 1);
        faulty(2, all + "do^;");
        faulty(2, all + "do x^;");
        faulty(2, all + "do x m^{}");
        sentence("if VAR METHOD BLOCK [else BLOCK] or while VAR METHOD BLOCK or maybe BLOCK [else BLOCK] or loop BLOCK.");
        String[] heads = {"if x t", "while x t", "maybe", "loop"};
        for (String head : heads) {
            boolean mayHaveElse = head.startsWith("if") || head.equals("maybe");
            isFine(all + head + "{}", 1);
            faulty(2, all + head + "^;");
            faulty(2, all + head + "^}");
            faulty(2, all + head + "{}^;");
            faulty(2, all + head + "^");
            if (mayHaveElse) {
                isFine(all + head + "{}else{}", 1);
                faulty(2, all + head + "{}else{}^else{}");
                faulty(2, all + head + "{}else^;");
                faulty(2, all + head + "{}else ^" + head + "{}");
                faulty(2, all + head + " ^else{}");
                faulty(2, all + head + "{new x;^else{}}");
            } else {
                faulty(2, all + head + "{}^else{}");
            }
        }
        faulty(3, all + "if ^t x{}");
        faulty(2, all + "while x^{}");
    }

    private static void blocks() {
        sentence("BLOCK: { {STATEMENT} }.");
        isFine("loop{}", 1);
        isFine("loop{loop{}loop{}}", 3);
        faulty(2, "loop{^");
        faulty(2, "loop{ \n ^");
        faulty(2, "loop{}^}");
        faulty(2, "loop{^{}}");
        faulty(2, "loop{^;}");
        faulty(2, "maybe{}else{^");
        faulty(2, "maybe{loop{}^else{}}");
        statementIs(loaded("maybe{maybe{}else{loop{}}}"), 1, 9, NONE, NONE, NONE, 3, 2, 1);
        statementIs(loaded("maybe{maybe{}}else{loop{}}"), 0, 9, NONE, NONE, NONE, 1, 2, 0);
    }

    private static void methodsOfStatements() {
        sentence("METHODS are of the VARIABLE's KIND: of do a CALL or a LOOK, of if, while a TEST");
        String all = "kind k s;kind l s;call k c s s;test k t s s s;look k o s;call l z s s;test l y s s s;var v k;";
        isFine(all + "do v c;do v o;if v t{}while v t{}", 4);
        faulty(5, all + "do v ^t;");
        faulty(5, all + "if v ^c{}");
        faulty(5, all + "if v ^o{}");
        faulty(5, all + "while v ^c{}");
        faulty(5, all + "while v ^o{}");
        faulty(3, all + "do v ^z;");
        faulty(3, all + "if v ^y{}");
        faulty(3, all + "while v ^y{}");
        sentence("both VARIABLES of a STATEMENT are unlike ones of one KIND.");
        String[] two = {"move", "share", "lend", "join"};
        for (String word : two) {
            isFine(TWO + word + " x y;" + word + " y x;", 2);
            faulty(5, TWO + word + " x ^x;");
            faulty(5, TWO + word + " x ^z;");
            faulty(5, TWO + word + " z ^x;");
            faulty(3, TWO + word + " x ^v;");
        }
        sentence("STATEMENTS are numbered from 0 on as they begin.");
        HoldChecker x = loaded(TWO + "maybe{new x;loop{drop x;}}else{move y x;}join x y;");
        int[] sorts = {9, 0, 10, 5, 1, 4};
        for (int i = 0; i < sorts.length; i++) {
            gives(x, "statement " + i, x.statement(i, 0), sorts[i]);
        }
    }

    // ---- FAULTS

    private static void firstFault() {
        sentence("FAULTS, the first along the text");
        faulty(4, "kind a b ^b A");
        faulty(3, "kind a b;new ^x B");
        faulty(2, "kind a b ^{ A");
        faulty(6, times(40, "loop{}") + "^new A;");
        faulty(6, "kind a b;kind c b;kind d b;kind e b;^kind A B;");
        faulty(5, TWO + "move x ^x A;");
        faulty(1, "^A kind");
        sentence("1 no TOKEN begins so, 2 a TOKEN that can't stand there (the end: the text's length)");
        faulty(1, "kind a b;^=");
        faulty(2, "kind a b;^a");
        faulty(2, "kind a b^");
        faulty(2, "kind a b \n  ^");
        faulty(2, "loop{}loop{  ^");
        HoldChecker x = new HoldChecker();
        feed(x, "kind a b c;");
        refuses(x, "a text that is cut", x.load(4), 9);
        due("fault", x.fault(0), 2);
        due("the text's length, not the tape's", x.fault(1), 4);
    }

    private static void faultsOfNames() {
        sentence("3 a NAME of no such KIND, STATE (of that KIND), VARIABLE, METHOD");
        faulty(3, "end ^a b;");
        faulty(3, "kind a b;call ^b m b b;");
        faulty(3, "kind a b;test ^c m b b b;");
        faulty(3, "kind a b;look ^m m b;");
        faulty(3, "var x ^x;");
        faulty(3, "kind a b;var x a;var y ^x;");
        faulty(3, "kind a b;end a ^a;");
        faulty(3, "kind a b;kind c d;end a ^d;");
        faulty(3, "kind a b;kind c d;call c m ^b d;");
        faulty(3, "kind a b;kind c d;call c m d ^b;");
        faulty(3, "kind a b;test a m ^c b b;");
        faulty(3, "kind a b;test a m b ^c b;");
        faulty(3, "kind a b;test a m b b ^c;");
        faulty(3, "kind a b;look a m ^m;");
        faulty(3, TWO + "new ^a;");
        faulty(3, TWO + "drop ^b;");
        faulty(3, TWO + "share ^v x;");
        faulty(3, TWO + "lend x ^v;");
        faulty(3, TWO + "do ^m x;");
        faulty(3, TWO + "call a m b b;do x ^b;");
        faulty(3, TWO + "call a m b b;do z ^m;");
        sentence("4 a NAME told already (KINDS; STATES of one; VARIABLES), a METHOD's LINE for a STATE that has one:"
            + " at that STATE");
        faulty(4, "kind a b;kind ^a b;");
        faulty(4, "kind a b;kind c d;kind ^a d;");
        faulty(4, "kind a b ^b;");
        faulty(4, "kind a b c d e ^d;");
        faulty(4, "kind a b;var x a;var ^x a;");
        faulty(4, "kind a b;kind c d;var x a;var ^x c;");
        faulty(4, "kind a b c;test a m b b b;test a m c b b;test a m ^c c c;");
        isFine("kind a a b;kind b a b;var a b;var b a;call a a a b;call a b b a;call b a a b;new a;do a a;", 2);
    }

    private static void faultsOfSorts() {
        sentence("5 a METHOD of another sort than is asked, or another sort's LINE: at its NAME; a second VARIABLE that is"
            + " the first, or of another KIND: at it");
        faulty(5, "kind a b;call a m b b;look a ^m c;");
        faulty(5, "kind a b;look a m b;call a ^m b b;");
        faulty(5, "kind a b;test a m b b b;var x a;do x ^m");
        faulty(5, TWO + "join y ^y;");
        faulty(5, TWO + "lend y ^z;");
        sentence("6 one too many: a KIND, VARIABLE, STATEMENT (at its first WORD), a STATE, a METHOD (at it), a sixth"
            + " STATEMENT in one another (at its first WORD).");
        faulty(6, "kind a b;kind c b;kind d b;kind e b;  ^kind");
        faulty(6, "kind k s;var a k;var b k;var c k;var d k;var e k;var f k;  ^var");
        faulty(6, times(40, "maybe{}") + "  ^while");
        faulty(6, "kind a b c d e f g\n^h");
        faulty(6, "kind k s;look k a s;look k b s;look k c s;look k d s;look k e s;look k f s;look k  ^g");
        faulty(6, "loop{loop{loop{loop{loop{  ^do");
        sentence("(Of one TOKEN the least kind.)");
        faulty(4, "kind a b c d e f g ^g;");
        faulty(4, "kind a b c d e f g ^b h;");
        faulty(2, "kind a b c d e f g ^new;");
        faulty(1, "kind a b c d e f g ^H;");
        faulty(2, "kind k s;look k a s;look k b s;look k c s;look k d s;look k e s;look k f s;look k ^new s;");
        faulty(5, "kind k s;look k a s;look k b s;look k c s;look k d s;look k e s;look k f s;call k ^a s s;");
        faulty(2, times(40, "loop{}") + "^kind a b;");
        faulty(2, times(40, "loop{}") + "^a");
        faulty(1, times(40, "loop{}") + "^newnewnew x;");
        faulty(2, "kind a b;kind c b;kind d b;kind e b;loop{}^kind f b;");
        faulty(2, "kind k s;var a k;var b k;var c k;var d k;var e k;var f k;loop{}^var g k;");
        faulty(2, "loop{loop{loop{loop{loop{^else");
        faulty(1, "loop{loop{loop{loop{loop{^0");
    }

    // ---- feed, load, fault

    private static void feedings() {
        sentence("Twenty bytes come behind those on the tape, the highest of each int first: how many it has");
        for (int place = 0; place < 40; place++) {
            StringBuilder text = new StringBuilder(times(40, " "));
            text.setCharAt(place, 'A');
            HoldChecker x = new HoldChecker();
            feed(x, text.toString());
            refuses(x, "a byte at " + place, x.load(40), 9);
            due("is found at " + place, x.fault(1), place);
        }
        HoldChecker high = new HoldChecker();
        due("the highest bits", high.feed(0x80000000, LEAST, -1, MOST, 0), 20);
        refuses(high, "are bytes as others", high.load(20), 9);
        due("at 0", high.fault(1), 0);
        HoldChecker low = new HoldChecker();
        due("the lowest byte is the last", low.feed(BLANKS, BLANKS, BLANKS, BLANKS, 0x20202021), 20);
        refuses(low, "of twenty", low.load(20), 9);
        due("at 19", low.fault(1), 19);
        sentence("NONE if there would be more than 900.");
        HoldChecker x = new HoldChecker();
        for (int i = 1; i <= 45; i++) {
            due("feed " + i, x.feed(BLANKS, BLANKS, BLANKS, BLANKS, BLANKS), 20 * i);
        }
        due("one more", x.feed(0, 0, 0, 0, 0), NONE);
        due("and again", x.feed(0, 0, 0, 0, 0), NONE);
        gives(x, "nothing of it came to the tape", x.load(900), 0);
        due("which is empty then", x.feed(0, 0, 0, 0, 0), 20);
        HoldChecker full = fed(45);
        full.feed(0, 0, 0, 0, 0);
        refuses(full, "nor behind 900", full.load(901), 1);
    }

    private static void loads() {
        sentence("The first n bytes of the tape (which is empty then) are a TEXT: how many STATEMENTS");
        HoldChecker x = new HoldChecker();
        feed(x, "loop{}maybe{}A");
        gives(x, "the first 13", x.load(13), 2);
        due("the others are gone", x.feed(BLANKS, BLANKS, BLANKS, BLANKS, BLANKS), 20);
        gives(x, "new ones alone", x.load(20), 0);
        feed(x, "loop{}");
        gives(x, "none of them", x.load(0), 0);
        refuses(x, "all are gone", x.load(1), 1);
        HoldChecker none = new HoldChecker();
        gives(none, "nothing was fed", none.load(0), 0);
        isFine(times(40, "loop{}"), 40);
        String[] texts = {REFUSED, "", moreConfigurations(), "loop{}", FILE + "do a size;new b;drop c;do c close;"};
        for (String last : texts) {
            for (String first : texts) {
                sameAnswers("behind another text", () -> askedThen(first, last), () -> loaded(last));
            }
        }
        sentence("(1: n below 0, above what the tape has; 9)");
        HoldChecker twenty = fed(1);
        int[] wrong = {-1, LEAST, 21, 900, 901, MOST};
        for (int n : wrong) {
            refuses(twenty, "load " + n, twenty.load(n), 1);
        }
        due("the tape stays", twenty.feed(BLANKS, BLANKS, BLANKS, BLANKS, BLANKS), 40);
        gives(twenty, "all that it has", twenty.load(40), 0);
        HoldChecker empty = new HoldChecker();
        refuses(empty, "an empty tape", empty.load(1), 1);
        HoldChecker again = file("new a;drop a;");
        feed(again, "loop{");
        refuses(again, "a fault", again.load(5), 9);
        refuses(again, "the tape is empty then, too", again.load(1), 1);
        gives(again, "the program stays", again.many(2), 2);
    }

    /** Nothing that was worked out for the first text is left behind the second one. */
    private static HoldChecker askedThen(String first, String last) {
        HoldChecker x = loaded(first);
        x.without(0);
        x.mend();
        x.paths(0);
        x.run(0, 0);
        load(x, last);
        return x;
    }

    private static void faults() {
        sentence("Of the latest load() with STATUS 0 or 9, what 0: the FAULT (0 without one), 1: its place (NONE without)."
            + " NONE for others, and ahead of any.");
        HoldChecker x = new HoldChecker();
        for (int what = -2; what <= 2; what++) {
            due("ahead of any, " + what, x.fault(what), NONE);
        }
        x.load(-1);
        due("a load with STATUS 1 is none", x.fault(0), NONE);
        feed(x, "kind a b b;");
        x.load(11);
        due("the fault", x.fault(0), 4);
        due("its place", x.fault(1), 9);
        int[] others = {LEAST, -2, -1, 2, 3, MOST};
        for (int what : others) {
            due("others, " + what, x.fault(what), NONE);
        }
        x.load(1);
        due("a load with STATUS 1 changes nothing", x.fault(0), 4);
        due("nor the place", x.fault(1), 9);
        x.many(0);
        due("nor do other calls", x.fault(0), 4);
        x.load(0);
        due("without one", x.fault(0), 0);
        due("nor a place", x.fault(1), NONE);
        for (int what : others) {
            due("others without one, " + what, x.fault(what), NONE);
        }
        feed(x, "}");
        x.load(1);
        due("a place of 0", x.fault(1), 0);
        due("the latest one", x.fault(0), 2);
    }

    public static void main(String[] args) {
        longestText();
        longestTokens();
        wordLengths();
        signs();
        linesThenStatements();
        anyNumberOfTimes();
        lineForms();
        reservedWords();
        mostKinds();
        mostStates();
        mostMethods();
        mostVariables();
        mostStatements();
        mostInOneAnother();
        numbered();
        ends();
        sortsOfMethods();
        oneLineForEachState();
        statementForms();
        blocks();
        methodsOfStatements();
        firstFault();
        faultsOfNames();
        faultsOfSorts();
        feedings();
        loads();
        faults();
        finish("edges of texts");
    }
}
