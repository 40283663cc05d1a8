import java.util.ArrayList;
import java.util.Arrays;
import java.util.List;
import java.util.Random;

/** Makes texts by chance: good ones whose programs mostly go right for a while, and spoiled ones. */
final class Texts {
    private static final String[] SPOILERS = {
        ";", "{", "}", "kind", "end", "call", "test", "look", "var", "new", "move", "share", "lend", "join",
        "drop", "do", "if", "else", "while", "maybe", "loop", "a", "b", "k", "l", "s", "m", "zz", "abcdefgh",
        "abcdefghi", "A", "1", "\t", "", " ", "\n", "\u00e9", ":", "kinds",
    };

    /** Sorts of statements, as often as they are to be tried; first those without blocks. */
    private static final int[] OFTEN = {0, 1, 2, 2, 3, 3, 4, 4, 4, 4, 5, 6, 6, 6, 6, 6, 6, 6, 7, 7, 7, 8, 8, 9, 10};
    private static final int PLAIN = 18;

    private final Random random;
    private StringBuilder text;
    private int[] states;
    /** By KIND, METHOD: 0 CALL, 1 TEST, 2 LOOK; and by STATE {yes, no}, or null. */
    private int[][] sorts;
    private int[][][][] does;
    private int[] kindOf;
    private int budget;
    private int carefulness;
    private boolean wide;

    /** A guess at what the VARIABLES hold at some point, along one path. */
    private static final class Guess {
        final int[] thing;
        final char[] how;
        final int[] state;

        Guess(int variables) {
            thing = new int[variables];
            how = new char[variables];
            state = new int[variables];
            Arrays.fill(how, 'n');
        }

        Guess copy() {
            Guess copy = new Guess(thing.length);
            System.arraycopy(thing, 0, copy.thing, 0, thing.length);
            System.arraycopy(how, 0, copy.how, 0, how.length);
            System.arraycopy(state, 0, copy.state, 0, state.length);
            return copy;
        }

        boolean holds(int v) {
            return how[v] != 'n';
        }

        boolean same(int a, int b) {
            return holds(a) && holds(b) && thing[a] == thing[b];
        }

        void become(int v, int to) {
            int its = thing[v];
            for (int w = 0; w < thing.length; w++) {
                if (holds(w) && thing[w] == its) {
                    state[w] = to;
                }
            }
        }
    }

    private int things;

    Texts(Random random) {
        this.random = random;
    }

    /** A text without a fault, of at most 900 bytes. */
    String good() {
        String made = null;
        while (made == null || made.length() > 900) {
            made = make();
        }
        return made;
    }

    /** A text with something changed in it; often, but not always, it has a fault then. */
    String spoiled() {
        String made = good();
        List<String> parts = new ArrayList<>(Arrays.asList(made.split("(?<=[;{} \n])|(?=[;{} \n])")));
        int changes = 1 + random.nextInt(2);
        for (int i = 0; i < changes && !parts.isEmpty(); i++) {
            int at = random.nextInt(parts.size());
            switch (random.nextInt(5)) {
                case 0:
                    parts.remove(at);
                    break;
                case 1:
                    parts.add(at, parts.get(random.nextInt(parts.size())));
                    break;
                case 2:
                    parts.set(at, parts.get(random.nextInt(parts.size())));
                    break;
                case 3:
                    parts.set(at, SPOILERS[random.nextInt(SPOILERS.length)]);
                    break;
                default:
                    parts.add(at, SPOILERS[random.nextInt(SPOILERS.length)]);
                    break;
            }
        }
        String spoiled = String.join("", parts);
        return spoiled.substring(0, Math.min(spoiled.length(), random.nextInt(8) == 0
            ? random.nextInt(spoiled.length() + 1) : 900));
    }

    private String make() {
        text = new StringBuilder();
        things = 0;
        wide = random.nextInt(10) == 0;
        int kinds = random.nextInt(3) == 0 && !wide ? 1 + random.nextInt(4) : 1;
        carefulness = random.nextInt(5) == 0 ? 60 : random.nextInt(2) == 0 ? 95 : 100;
        states = new int[kinds];
        sorts = new int[kinds][];
        does = new int[kinds][][][];
        for (int k = 0; k < kinds; k++) {
            makeKind(k);
        }
        int variables = 1 + random.nextInt(kinds == 1 ? 4 : 6);
        if (random.nextInt(6) == 0 || wide) {
            variables = wide ? 4 + random.nextInt(3) : 6;
        }
        kindOf = new int[variables];
        for (int v = 0; v < variables; v++) {
            kindOf[v] = random.nextInt(kinds);
            text.append("var ").append((char) ('a' + v)).append(" k").append(letter(kindOf[v])).append(";");
        }
        budget = random.nextInt(5) == 0 ? 40 : 2 + random.nextInt(18);
        Guess beginning = new Guess(variables);
        if (wide) {
            makeWide(beginning);
        }
        makeBlock(beginning, 0, 3 + random.nextInt(20));
        return text.toString();
    }

    /** Many things at once that go their own ways: many CONFIGURATIONS. */
    private void makeWide(Guess guess) {
        budget = 40;
        for (int v = 0; v < kindOf.length; v++) {
            text.append("new ").append(letter(v)).append(";");
            apply(guess, 0, v, v, -1);
        }
        text.append("loop{");
        for (int i = 0; i < kindOf.length + 2; i++) {
            text.append("maybe{");
            makePlain(guess, 6, false);
            text.append("}");
            budget--;
        }
        text.append("}");
        budget -= kindOf.length + 1;
    }

    private static char letter(int number) {
        return (char) ('a' + number);
    }

    private void makeKind(int k) {
        states[k] = 1 + random.nextInt(random.nextInt(4) == 0 ? 6 : 3);
        text.append("kind k").append(letter(k));
        for (int s = 0; s < states[k]; s++) {
            text.append(" s").append(letter(s));
        }
        text.append(random.nextInt(3) == 0 ? " ;\n" : ";");
        if (random.nextInt(10) > 0) {
            text.append("end k").append(letter(k));
            int told = random.nextInt(3) * states[k] / 2 + 1 + random.nextInt(states[k]);
            for (int i = 0; i < told; i++) {
                text.append(" s").append(letter(random.nextInt(states[k])));
            }
            text.append(";");
        }
        int methods = random.nextInt(random.nextInt(4) == 0 ? 7 : 4);
        sorts[k] = new int[methods];
        does[k] = new int[methods][][];
        for (int m = 0; m < methods; m++) {
            makeMethod(k, m);
        }
    }

    private void makeMethod(int k, int m) {
        sorts[k][m] = random.nextInt(5) / 2;
        does[k][m] = new int[states[k]][];
        int from = random.nextInt(states[k]);
        int lines = wide || random.nextBoolean() ? states[k] : 1 + random.nextInt(states[k]);
        for (int i = 0; i < lines; i++) {
            int s = (from + i) % states[k];
            int yes = sorts[k][m] == 2 ? s : random.nextInt(states[k]);
            int no = sorts[k][m] == 1 ? random.nextInt(states[k]) : yes;
            does[k][m][s] = new int[] {yes, no};
            text.append(new String[] {"call", "test", "look"}[sorts[k][m]]);
            text.append(" k").append(letter(k)).append(" m").append(letter(m)).append(" s").append(letter(s));
            if (sorts[k][m] < 2) {
                text.append(" s").append(letter(yes));
            }
            if (sorts[k][m] == 1) {
                text.append(" s").append(letter(no));
            }
            text.append(";");
        }
    }

    private Guess makeBlock(Guess guess, int depth, int most) {
        Guess now = guess;
        int count = depth == 0 ? most : random.nextInt(4);
        for (int i = 0; i < count && budget > 0; i++) {
            now = makeStatement(now, depth);
        }
        if (depth > 0 && random.nextInt(100) < carefulness) {
            holdAsBefore(guess, now);
        }
        return now;
    }

    /** Branches that hold alike where they come together let a program go on for longer. */
    private void holdAsBefore(Guess before, Guess now) {
        for (int v = 0; v < kindOf.length && budget > 0; v++) {
            if (before.holds(v) != now.holds(v)) {
                int sort = now.holds(v) ? 5 : 0;
                apply(now, sort, v, v, -1);
                budget--;
                text.append(sort == 0 ? "new " : "drop ").append(letter(v)).append(";");
            }
        }
    }

    private Guess makeStatement(Guess guess, int depth) {
        boolean careless = random.nextInt(100) >= carefulness;
        for (int attempt = 0; attempt < 60; attempt++) {
            int sort = OFTEN[random.nextInt(depth < 4 ? OFTEN.length : PLAIN)];
            Guess now = guess.copy();
            if (sort >= 7) {
                if (makeBranch(now, sort, depth, careless)) {
                    return branched;
                }
            } else if (makePlain(now, sort, careless)) {
                return now;
            }
        }
        return guess;
    }

    private Guess branched;

    private boolean makeBranch(Guess now, int sort, int depth, boolean careless) {
        Guess yes = now.copy();
        Guess no = now.copy();
        StringBuilder head = new StringBuilder(new String[] {"if", "while", "maybe", "loop"}[sort - 7]);
        if (sort <= 8) {
            int v = random.nextInt(kindOf.length);
            int k = kindOf[v];
            int m = sorts[k].length == 0 ? -1 : random.nextInt(sorts[k].length);
            if (m < 0 || sorts[k][m] != 1) {
                return false;
            }
            boolean fine = now.holds(v) && now.how[v] != 'l' && does[k][m][now.state[v]] != null;
            if (!fine && !careless) {
                return false;
            }
            if (fine) {
                yes.become(v, does[k][m][now.state[v]][0]);
                no.become(v, does[k][m][now.state[v]][1]);
            }
            head.append(" ").append(letter(v)).append(" m").append(letter(m));
        }
        budget--;
        text.append(head).append("{");
        yes = makeBlock(yes, depth + 1, 3);
        text.append("}");
        if ((sort == 7 || sort == 9) && random.nextInt(2) == 0) {
            text.append("else{");
            no = makeBlock(no, depth + 1, 3);
            text.append("}");
        }
        branched = sort == 8 || sort == 10 || random.nextBoolean() ? no : yes;
        return true;
    }

    private boolean makePlain(Guess now, int sort, boolean careless) {
        int a = random.nextInt(kindOf.length);
        int b = random.nextInt(kindOf.length);
        boolean two = sort >= 1 && sort <= 4;
        if (two && (a == b || kindOf[a] != kindOf[b])) {
            return false;
        }
        int k = kindOf[a];
        int m = sort != 6 || sorts[k].length == 0 ? -1 : random.nextInt(sorts[k].length);
        if (sort == 6 && (m < 0 || sorts[k][m] == 1)) {
            return false;
        }
        if (!careless && !fits(now, sort, a, b, m)) {
            return false;
        }
        if (fits(now, sort, a, b, m)) {
            apply(now, sort, a, b, m);
        }
        budget--;
        text.append(new String[] {"new", "move", "share", "lend", "join", "drop", "do"}[sort]);
        text.append(" ").append(letter(a));
        if (two) {
            text.append(" ").append(letter(b));
        }
        if (m >= 0) {
            text.append(" m").append(letter(m));
        }
        text.append(random.nextInt(20) == 0 ? " ;\n " : ";");
        return true;
    }

    private boolean fits(Guess now, int sort, int a, int b, int m) {
        switch (sort) {
            case 0:
                return !now.holds(a);
            case 1:
            case 3:
                return !now.holds(a) && now.holds(b);
            case 2:
                return !now.holds(a) && now.holds(b) && now.how[b] != 'l';
            case 4:
                return now.same(a, b);
            case 5:
                return now.holds(a);
            default:
                return now.holds(a) && (sorts[kindOf[a]][m] == 2 || now.how[a] != 'l')
                    && does[kindOf[a]][m][now.state[a]] != null;
        }
    }

    private void apply(Guess now, int sort, int a, int b, int m) {
        switch (sort) {
            case 0:
                now.thing[a] = things++;
                now.how[a] = 'w';
                now.state[a] = 0;
                break;
            case 4:
                now.how[b] = 'n';
                break;
            case 5:
                now.how[a] = 'n';
                break;
            case 6:
                now.become(a, does[kindOf[a]][m][now.state[a]][0]);
                break;
            default:
                now.thing[a] = now.thing[b];
                now.state[a] = now.state[b];
                now.how[a] = sort == 1 ? now.how[b] : sort == 2 ? 's' : 'l';
                now.how[b] = sort == 1 ? 'n' : sort == 2 || now.how[b] == 's' ? 's' : 'l';
                break;
        }
    }
}
