import java.util.function.Supplier;
import java.util.function.ToIntFunction;

/** The edges that the document names of new objects, of STATUS, and of calls that are refused: sentence by sentence. */
public final class StatusEdgesTest extends Asking {
    /** A program that CHECK refuses at 1, with a PLACE that can't come, and a METHOD of each sort. */
    private static final String REFUSED = FILE + "new a;do a close;drop a;";
    private static final String ACCEPTED = FILE + "new a;do a begin;do a close;drop a;";

    /** A call that is to be refused, and the STATUS that it is to have. */
    private static final class Call {
        final String name;
        final int status;
        final ToIntFunction<HoldChecker> ask;

        Call(String name, int status, ToIntFunction<HoldChecker> ask) {
            this.name = name;
            this.status = status;
            this.ask = ask;
        }
    }

    /** Refused whatever is loaded, as there are at most as many as the document tells. */
    private static final Call[] ALWAYS = {
        new Call("load -1", 1, x -> x.load(-1)),
        new Call("load 901", 1, x -> x.load(901)),
        new Call("many 3", 1, x -> x.many(3)),
        new Call("kind 0 6", 1, x -> x.kind(0, 6)),
        new Call("kind 4 6", 1, x -> x.kind(4, 6)),
        new Call("kind 4 0", 2, x -> x.kind(4, 0)),
        new Call("kind -1 0", 2, x -> x.kind(-1, 0)),
        new Call("method 4 6 2", 1, x -> x.method(4, 6, 2)),
        new Call("method 4 0 0", 2, x -> x.method(4, 0, 0)),
        new Call("method 0 6 0", 2, x -> x.method(0, 6, 0)),
        new Call("comes 4 0 0", 2, x -> x.comes(4, 0, 0, true)),
        new Call("comes 0 6 0", 2, x -> x.comes(0, 6, 0, true)),
        new Call("comes 0 0 6", 2, x -> x.comes(0, 0, 6, true)),
        new Call("tell 4 6 6 -2", 1, x -> x.tell(4, 6, 6, true, -2)),
        new Call("tell 4 0 0 NONE", 2, x -> x.tell(4, 0, 0, true, NONE)),
        new Call("tell 0 6 0 0", 2, x -> x.tell(0, 6, 0, true, 0)),
        new Call("tell 0 0 6 0", 2, x -> x.tell(0, 0, 6, false, 0)),
        new Call("tell 0 0 0 6", 2, x -> x.tell(0, 0, 0, true, 6)),
        new Call("toEnd 4 0", 2, x -> x.toEnd(4, 0)),
        new Call("toEnd 0 6", 2, x -> x.toEnd(0, 6)),
        new Call("towards 4 0", 2, x -> x.towards(4, 0)),
        new Call("towards 0 -1", 2, x -> x.towards(0, -1)),
        new Call("alike 4 0 0", 2, x -> x.alike(4, 0, 0)),
        new Call("alike 0 6 6", 2, x -> x.alike(0, 6, 6)),
        new Call("rows 4 13", 1, x -> x.rows(4, 13, true)),
        new Call("rows 4 -1", 1, x -> x.rows(4, -1, true)),
        new Call("rows 4 12", 2, x -> x.rows(4, 12, true)),
        new Call("statement 40 7", 1, x -> x.statement(40, 7)),
        new Call("statement 40 0", 2, x -> x.statement(40, 0)),
        new Call("variable 6", 2, x -> x.variable(6)),
        new Call("check 5", 1, x -> x.check(5)),
        new Call("at 41 6 5", 1, x -> x.at(41, 6, 5)),
        new Call("at 41 0 0", 2, x -> x.at(41, 0, 0)),
        new Call("at 0 6 0", 2, x -> x.at(0, 6, 0)),
        new Call("without 40", 2, x -> x.without(40)),
        new Call("paths 7", 1, x -> x.paths(7)),
        new Call("path -1", 1, x -> x.path(-1)),
        new Call("truly 41 6 4", 1, x -> x.truly(41, 6, 4)),
        new Call("truly 41 0 0", 2, x -> x.truly(41, 0, 0)),
        new Call("truly 0 6 0", 2, x -> x.truly(0, 6, 0)),
        new Call("left 4", 2, x -> x.left(4)),
        new Call("never -2", 1, x -> x.never(-2)),
        new Call("run 65537 0", 1, x -> x.run(65537, 0)),
        new Call("run 0 4", 1, x -> x.run(0, 4)),
        new Call("runs 65536 2 0", 1, x -> x.runs(65536, 2, 0)),
        new Call("runs 0 0 0", 1, x -> x.runs(0, 0, 0)),
        new Call("runs 0 1 7", 1, x -> x.runs(0, 1, 7)),
    };

    /** Refused of the program that CHECK refuses. */
    private static final Call[] OF_REFUSED = {
        new Call("comes, it can't be there", 5, x -> x.comes(0, 0, 1, true)),
        new Call("tell, it is so already", 4, x -> x.tell(0, 0, 0, true, 1)),
        new Call("tell, it can't be there already", 4, x -> x.tell(0, 0, 1, true, NONE)),
        new Call("tell, a look", 5, x -> x.tell(0, 4, 0, true, 1)),
        new Call("tell, a look where it can't be", 5, x -> x.tell(0, 4, 2, true, 1)),
        new Call("toEnd, there is none", 5, x -> x.toEnd(0, 2)),
        new Call("towards, there is none", 5, x -> x.towards(0, 2)),
        new Call("towards, it is an end", 5, x -> x.towards(0, 0)),
        new Call("at, it can't come", 5, x -> x.at(2, 0, 0)),
        new Call("path, behind it", 5, x -> x.path(2)),
        new Call("truly, none is there", 5, x -> x.truly(2, 0, 0)),
        new Call("never, no more", 5, x -> x.never(1)),
        new Call("at, no such variable first", 2, x -> x.at(2, 3, 0)),
        new Call("truly, no such place first", 2, x -> x.truly(4, 0, 0)),
        new Call("truly, a number that can't be first", 1, x -> x.truly(4, 0, 4)),
    };

    /** Refused of the program that CHECK accepts. */
    private static final Call[] OF_ACCEPTED = {
        new Call("check 1", 5, x -> x.check(1)),
        new Call("check 2", 5, x -> x.check(2)),
        new Call("mend", 5, x -> x.mend()),
        new Call("paths 2", 5, x -> x.paths(2)),
        new Call("paths 3", 5, x -> x.paths(3)),
        new Call("path 0", 5, x -> x.path(0)),
        new Call("never 0", 5, x -> x.never(0)),
    };

    /** Refused where there are MORE than 1,000 CONFIGURATIONS. */
    private static final Call[] OF_MORE = {
        new Call("paths 0", 6, x -> x.paths(0)),
        new Call("paths 2", 6, x -> x.paths(2)),
        new Call("paths 3", 6, x -> x.paths(3)),
        new Call("paths 4", 6, x -> x.paths(4)),
        new Call("paths 6", 6, x -> x.paths(6)),
        new Call("path 0", 6, x -> x.path(0)),
        new Call("path of the most", 6, x -> x.path(MOST)),
        new Call("truly", 6, x -> x.truly(0, 0, 0)),
        new Call("left", 6, x -> x.left(0)),
        new Call("never NONE", 6, x -> x.never(NONE)),
        new Call("never 0", 6, x -> x.never(0)),
        new Call("mend", 5, x -> x.mend()),
    };

    private static void constants() {
        sentence("NONE = -1: None.");
        due("NONE", HoldChecker.NONE, -1);
        due("a call that is refused", new HoldChecker().kind(0, 0), -1);
    }

    private static void newObject() {
        sentence("No KINDS, VARIABLES, STATEMENTS; STATUS 0.");
        due("status", new HoldChecker().status(), 0);
        HoldChecker x = new HoldChecker();
        for (int what = 0; what < 3; what++) {
            gives(x, "many " + what, x.many(what), 0);
        }
        refuses(x, "no kind", x.kind(0, 0), 2);
        refuses(x, "no variable", x.variable(0), 2);
        refuses(x, "no statement", x.statement(0, 0), 2);
        sameAnswers("so it stays, whatever is asked", HoldChecker::new, StatusEdgesTest::askedBefore);
        HoldChecker other = file("new a;");
        HoldChecker next = new HoldChecker();
        gives(next, "nothing of another object", next.many(2), 0);
        gives(other, "which keeps its own", other.many(2), 1);
        due("nor its tape", next.feed(0, 0, 0, 0, 0), 20);
    }

    private static HoldChecker askedBefore() {
        HoldChecker x = new HoldChecker();
        x.many(7);
        x.variable(0);
        x.paths(0);
        x.mend();
        return x;
    }

    private static void statusOfLatest() {
        sentence("STATUS of the latest call that has one.");
        HoldChecker x = file("new a;");
        x.many(3);
        due("of many 3", x.status(), 1);
        due("again, the same", x.status(), 1);
        x.many(0);
        due("of many 0", x.status(), 0);
        x.kind(9, 0);
        due("of kind 9", x.status(), 2);
        sentence("status(), feed(), fault() have none.");
        x.feed(0, 0, 0, 0, 0);
        due("feed has none", x.status(), 2);
        x.fault(0);
        x.fault(7);
        x.fault(LEAST);
        due("fault has none", x.status(), 2);
        x.status();
        due("status has none", x.status(), 2);
        for (int i = 0; i < 46; i++) {
            x.feed(0, 0, 0, 0, 0);
        }
        due("nor has a feed that gives NONE", x.status(), 2);
        x.load(0);
        due("load has one", x.status(), 0);
    }

    /** Each call is refused, and with the next one STATUS is 0 again. */
    private static void areRefused(Supplier<HoldChecker> made, Call[] calls) {
        for (Call call : calls) {
            HoldChecker x = made.get();
            refuses(x, call.name, call.ask.applyAsInt(x), call.status);
            refuses(x, call.name + ", again", call.ask.applyAsInt(x), call.status);
            x.many(0);
            due("status behind " + call.name, x.status(), 0);
        }
    }

    private static void statusIs() {
        sentence("STATUS of a call is the first of those told with it that holds");
        areRefused(HoldChecker::new, ALWAYS);
        areRefused(() -> loaded(REFUSED), ALWAYS);
        areRefused(() -> loaded(moreConfigurations()), ALWAYS);
        sentence("4 it is so already. 5 there is none. 6 MORE.");
        areRefused(() -> loaded(REFUSED), OF_REFUSED);
        areRefused(() -> loaded(ACCEPTED), OF_ACCEPTED);
        areRefused(() -> loaded(moreConfigurations()), OF_MORE);
        sentence("1 a number that can't be (below 0, too, of one that counts). 2 no such KIND, STATE, METHOD, VARIABLE,"
            + " STATEMENT, PLACE.");
        HoldChecker x = loaded(ACCEPTED);
        int[] below = {-1, LEAST};
        for (int number : below) {
            refuses(x, "what of many " + number, x.many(number), 1);
            refuses(x, "n of load " + number, x.load(number), 1);
            refuses(x, "n of rows " + number, x.rows(0, number, false), 1);
            refuses(x, "i of path " + number, x.path(number), 1);
            refuses(x, "seed of run " + number, x.run(number, 0), 1);
            refuses(x, "n of runs " + number, x.runs(0, number, 0), 1);
            refuses(x, "how of runs " + number, x.runs(0, 1, number), 1);
            refuses(x, "a kind " + number, x.kind(number, 0), 2);
            refuses(x, "a state " + number, x.toEnd(0, number), 2);
            refuses(x, "a method " + number, x.method(0, number, 0), 2);
            refuses(x, "a variable " + number, x.variable(number), 2);
            refuses(x, "a statement " + number, x.without(number), 2);
            refuses(x, "a place " + number, x.at(number, 0, 0), 2);
        }
        sentence("9 a FAULT. 0 else.");
        feed(x, "loop{");
        refuses(x, "a fault", x.load(5), 9);
        gives(x, "none", x.load(0), 0);
    }

    /** With a text on the tape and a FAULT that was told. */
    private static HoldChecker prepared(String text) {
        HoldChecker x = loaded(text);
        feed(x, "loop{");
        x.load(5);
        feed(x, "kind a b;");
        return x;
    }

    private static void nothingChanges(String text, Call[] calls) {
        String before = allAnswers(() -> prepared(text));
        for (Call call : calls) {
            Supplier<HoldChecker> made = () -> {
                HoldChecker x = prepared(text);
                call.ask.applyAsInt(x);
                return x;
            };
            due(call.name + " changes no answer", allAnswers(made).equals(before) ? 1 : 0, 1);
            HoldChecker x = made.get();
            due(call.name + " changes not what fault tells", x.fault(1), 5);
            due("nor the tape's length", x.feed(0, 0, 0, 0, 0), 40);
            gives(x, "nor its bytes", x.load(9), 0);
            gives(x, "nor these", x.many(0), 1);
        }
    }

    private static void nothingElseChanges() {
        sentence("With another STATUS than 0 a call gives NONE, and changes nothing else (but the tape and what fault() tells"
            + " with 9).");
        nothingChanges(REFUSED, ALWAYS);
        nothingChanges(REFUSED, OF_REFUSED);
        nothingChanges(ACCEPTED, OF_ACCEPTED);
        nothingChanges(moreConfigurations(), OF_MORE);
        String[] faults = {"loop{", "kind a b;kind c", "kind z y;var q z;new q;drop r;", FILE + "new a;new", "A",
            "kind k s t;end k t;call k m t s;var v k;do v m;do v n;"};
        for (String fault : faults) {
            sameAnswers("behind a fault, but for what fault tells", () -> {
                HoldChecker x = prepared(ACCEPTED);
                feed(x, fault);
                x.load(20 + fault.length());
                return withFaultOf(x);
            }, () -> prepared(ACCEPTED));
            HoldChecker x = loaded(ACCEPTED);
            feed(x, fault);
            refuses(x, "the fault", x.load(fault.length()), 9);
            due("fault tells it", x.fault(0) > 0 ? 1 : 0, 1);
            due("the tape is empty", x.feed(0, 0, 0, 0, 0), 20);
        }
    }

    /** Has the same FAULT told as prepared() has. */
    private static HoldChecker withFaultOf(HoldChecker x) {
        feed(x, "loop{");
        x.load(5);
        return x;
    }

    private static void mostCalls() {
        sentence("An object is used for at most 512 calls after it has been made");
        HoldChecker x = new HoldChecker();
        int[] line = {0x6c6f6f70, 0x7b7d206c, 0x6f6f707b, 0x7d202020, 0x20202020};
        int calls = 0;
        for (int round = 0; round < 56; round++) {
            for (int i = 1; i <= 4; i++) {
                due("feed in round " + round, x.feed(line[0], line[1], line[2], line[3], line[4]), 20 * i);
            }
            due("load in round " + round, x.load(20 * (1 + round % 4)), 2 * (1 + round % 4));
            due("paths in round " + round, x.paths(0), 1 + 2 * (1 + round % 4));
            due("check in round " + round, x.check(4), 1 + 2 * (1 + round % 4));
            due("many in round " + round, x.many(3), NONE);
            due("status in round " + round, x.status(), 1);
            calls += 9;
        }
        while (calls < 512) {
            due("call " + calls, x.run(65536, 1), 6);
            calls++;
        }
    }

    public static void main(String[] args) {
        mostCalls();
        constants();
        newObject();
        statusOfLatest();
        statusIs();
        nothingElseChanges();
        finish("edges of STATUS");
    }
}
