import java.math.BigInteger;
import java.util.ArrayDeque;
import java.util.ArrayList;
import java.util.Arrays;
import java.util.HashMap;
import java.util.HashSet;
import java.util.LinkedHashMap;
import java.util.List;
import java.util.Map;
import java.util.Set;
import java.util.TreeMap;
import java.util.TreeSet;

/**
 * A second HoldChecker, written from the document in another way than the first: trees of statements,
 * things as objects, sets as sets, everything worked out anew at each call. ModelTest holds the two
 * against each other. Nothing here is shared with the class under test.
 */
final class Model {
    private static final Set<String> RESERVED = new HashSet<>(Arrays.asList(
        "kind", "end", "call", "test", "look", "var", "new", "move", "share", "lend", "join", "drop", "do",
        "if", "else", "while", "maybe", "loop"));
    private static final List<String> SORTS = Arrays.asList(
        "new", "move", "share", "lend", "join", "drop", "do", "if", "while", "maybe", "loop");

    // ---- what a text tells

    static final class Method {
        String name;
        String sort;
        /** STATE to {by yes, by no}. */
        final Map<Integer, int[]> does = new TreeMap<>();
    }

    static final class Kind {
        String name;
        final List<String> states = new ArrayList<>();
        final Set<Integer> ends = new TreeSet<>();
        final List<Method> methods = new ArrayList<>();
    }

    static final class Node {
        String sort;
        int a = -1;
        int b = -1;
        int m = -1;
        List<Node> first;
        List<Node> other;
        int number;
        int depth;
        int yes;
        int no;
    }

    static final class Told {
        final List<Kind> kinds = new ArrayList<>();
        final List<String> names = new ArrayList<>();
        final List<Integer> kindOf = new ArrayList<>();
        List<Node> body = new ArrayList<>();
        /** All STATEMENTS, by number. */
        List<Node> all = new ArrayList<>();

        Kind kindOfVariable(int v) {
            return kinds.get(kindOf.get(v));
        }

        void number() {
            all = new ArrayList<>();
            collect(body, 0);
            link(body, all.size());
        }

        private void collect(List<Node> block, int depth) {
            for (Node node : block) {
                node.number = all.size();
                node.depth = depth;
                all.add(node);
                if (node.first != null) {
                    collect(node.first, depth + 1);
                }
                if (node.other != null) {
                    collect(node.other, depth + 1);
                }
            }
        }

        private void link(List<Node> block, int behind) {
            for (int i = 0; i < block.size(); i++) {
                Node node = block.get(i);
                int next = i + 1 < block.size() ? block.get(i + 1).number : behind;
                node.yes = next;
                node.no = -1;
                if (node.first == null) {
                    continue;
                }
                boolean round = node.sort.equals("while") || node.sort.equals("loop");
                int behindFirst = round ? node.number : next;
                node.yes = node.first.isEmpty() ? behindFirst : node.first.get(0).number;
                node.no = node.other == null || node.other.isEmpty() ? next : node.other.get(0).number;
                link(node.first, behindFirst);
                if (node.other != null) {
                    link(node.other, next);
                }
            }
        }
    }

    // ---- reading

    @SuppressWarnings("serial")
    static final class Fault extends RuntimeException {
        final int sort;
        final int place;

        Fault(int sort, int place) {
            this.sort = sort;
            this.place = place;
        }
    }

    static final class Reading {
        final String text;
        final Told told = new Told();
        final List<String> tokens = new ArrayList<>();
        final List<Integer> starts = new ArrayList<>();
        int here;
        int statements;

        Reading(String text) {
            this.text = text;
            int i = 0;
            while (i < text.length()) {
                char c = text.charAt(i);
                int j = i + 1;
                if (c == ' ' || c == '\n') {
                    i = j;
                    continue;
                }
                String token = "?";
                if (c >= 'a' && c <= 'z') {
                    while (j < text.length() && text.charAt(j) >= 'a' && text.charAt(j) <= 'z') {
                        j++;
                    }
                    token = j - i <= 8 ? text.substring(i, j) : "?";
                } else if (c == ';' || c == '{' || c == '}') {
                    token = String.valueOf(c);
                }
                tokens.add(token);
                starts.add(i);
                i = j;
            }
            tokens.add("");
            starts.add(text.length());
        }

        Fault fault(int sort) {
            return new Fault(tokens.get(here).equals("?") ? 1 : sort, starts.get(here));
        }

        boolean is(String token) {
            return tokens.get(here).equals(token);
        }

        void take(String token) {
            if (!is(token)) {
                throw fault(2);
            }
            here++;
        }

        /** The NAME here, not taken yet. */
        String name() {
            String token = tokens.get(here);
            if (!token.matches("[a-z]+") || RESERVED.contains(token)) {
                throw fault(2);
            }
            return token;
        }

        int known(List<String> names) {
            int found = names.indexOf(name());
            if (found < 0) {
                throw fault(3);
            }
            here++;
            return found;
        }

        void unknown(List<String> names) {
            if (names.contains(name())) {
                throw fault(4);
            }
        }

        List<String> kindNames() {
            List<String> names = new ArrayList<>();
            for (Kind kind : told.kinds) {
                names.add(kind.name);
            }
            return names;
        }

        static List<String> methodNames(Kind kind) {
            List<String> names = new ArrayList<>();
            for (Method method : kind.methods) {
                names.add(method.name);
            }
            return names;
        }

        Told read() {
            while (true) {
                if (is("kind")) {
                    readKind();
                } else if (is("end")) {
                    here++;
                    Kind kind = told.kinds.get(known(kindNames()));
                    do {
                        kind.ends.add(known(kind.states));
                    } while (!is(";"));
                    take(";");
                } else if (is("call") || is("test") || is("look")) {
                    readMethod();
                } else if (is("var")) {
                    readVariable();
                } else {
                    break;
                }
            }
            while (!is("")) {
                told.body.add(readStatement(0));
            }
            told.number();
            return told;
        }

        void readKind() {
            if (told.kinds.size() == 4) {
                throw fault(6);
            }
            here++;
            unknown(kindNames());
            Kind kind = new Kind();
            kind.name = name();
            here++;
            do {
                unknown(kind.states);
                if (kind.states.size() == 6) {
                    throw fault(6);
                }
                kind.states.add(name());
                here++;
            } while (!is(";"));
            take(";");
            told.kinds.add(kind);
        }

        void readMethod() {
            String sort = tokens.get(here);
            here++;
            Kind kind = told.kinds.get(known(kindNames()));
            String name = name();
            int m = methodNames(kind).indexOf(name);
            if (m < 0) {
                if (kind.methods.size() == 6) {
                    throw fault(6);
                }
                Method method = new Method();
                method.name = name;
                method.sort = sort;
                kind.methods.add(method);
                m = kind.methods.size() - 1;
            }
            Method method = kind.methods.get(m);
            if (!method.sort.equals(sort)) {
                throw fault(5);
            }
            here++;
            int from = known(kind.states);
            if (method.does.containsKey(from)) {
                here--;
                throw fault(4);
            }
            int yes = sort.equals("look") ? from : known(kind.states);
            int no = sort.equals("test") ? known(kind.states) : yes;
            method.does.put(from, new int[] {yes, no});
            take(";");
        }

        void readVariable() {
            if (told.names.size() == 6) {
                throw fault(6);
            }
            here++;
            unknown(told.names);
            String name = name();
            here++;
            told.kindOf.add(known(kindNames()));
            told.names.add(name);
            take(";");
        }

        Node readStatement(int depth) {
            Node node = new Node();
            node.sort = tokens.get(here);
            if (!SORTS.contains(node.sort)) {
                throw fault(2);
            }
            if (statements == 40 || depth == 5) {
                throw fault(6);
            }
            statements++;
            here++;
            switch (node.sort) {
                case "new":
                case "drop":
                    node.a = known(told.names);
                    take(";");
                    break;
                case "move":
                case "share":
                case "lend":
                case "join":
                    node.a = known(told.names);
                    node.b = known(told.names);
                    if (node.a == node.b || !told.kindOf.get(node.a).equals(told.kindOf.get(node.b))) {
                        here--;
                        throw fault(5);
                    }
                    take(";");
                    break;
                case "do":
                    readAsked(node, false);
                    take(";");
                    break;
                case "if":
                    readAsked(node, true);
                    readBlocks(node, depth, true);
                    break;
                case "while":
                    readAsked(node, true);
                    readBlocks(node, depth, false);
                    break;
                default:
                    readBlocks(node, depth, node.sort.equals("maybe"));
                    break;
            }
            return node;
        }

        void readAsked(Node node, boolean test) {
            node.a = known(told.names);
            Kind kind = told.kindOfVariable(node.a);
            node.m = known(methodNames(kind));
            if (kind.methods.get(node.m).sort.equals("test") != test) {
                here--;
                throw fault(5);
            }
        }

        void readBlocks(Node node, int depth, boolean mayElse) {
            node.first = readBlock(depth);
            if (mayElse && is("else")) {
                here++;
                node.other = readBlock(depth);
            }
        }

        List<Node> readBlock(int depth) {
            take("{");
            List<Node> block = new ArrayList<>();
            while (!is("}")) {
                block.add(readStatement(depth + 1));
            }
            here++;
            return block;
        }
    }

    // ---- what truly happens

    static final class Thing {
        int state;
    }

    static final class Config {
        int place;
        Thing[] held;
        char[] how;

        static Config beginning(int variables) {
            Config config = new Config();
            config.held = new Thing[variables];
            config.how = new char[variables];
            Arrays.fill(config.how, 'n');
            return config;
        }

        Config copy() {
            Config copy = beginning(held.length);
            copy.place = place;
            Map<Thing, Thing> copies = new HashMap<>();
            for (int v = 0; v < held.length; v++) {
                copy.how[v] = how[v];
                if (held[v] != null) {
                    Thing thing = copies.computeIfAbsent(held[v], old -> new Thing());
                    thing.state = held[v].state;
                    copy.held[v] = thing;
                }
            }
            return copy;
        }

        String text() {
            StringBuilder text = new StringBuilder().append(place);
            List<Thing> seen = new ArrayList<>();
            for (int v = 0; v < held.length; v++) {
                if (held[v] == null) {
                    text.append(" -");
                    continue;
                }
                if (!seen.contains(held[v])) {
                    seen.add(held[v]);
                }
                text.append(' ').append(how[v]).append(seen.indexOf(held[v])).append('.').append(held[v].state);
            }
            return text.toString();
        }

        int holders(Thing thing) {
            int count = 0;
            for (Thing other : held) {
                count += other == thing ? 1 : 0;
            }
            return count;
        }

        int things() {
            Set<Thing> things = new HashSet<>();
            for (Thing thing : held) {
                if (thing != null) {
                    things.add(thing);
                }
            }
            return things.size();
        }
    }

    private static int wrong(Told told, Config config) {
        if (config.place == told.all.size()) {
            for (int v = 0; v < config.held.length; v++) {
                if (config.held[v] != null && !told.kindOfVariable(v).ends.contains(config.held[v].state)) {
                    return 5;
                }
            }
            return 0;
        }
        Node node = told.all.get(config.place);
        Thing a = node.a < 0 ? null : config.held[node.a];
        Thing b = node.b < 0 ? null : config.held[node.b];
        switch (node.sort) {
            case "new":
                return a != null ? 1 : 0;
            case "move":
            case "lend":
                return a != null || b == null ? 1 : 0;
            case "share":
                return a != null || b == null ? 1 : config.how[node.b] == 'l' ? 3 : 0;
            case "join":
                return a == null || b == null ? 1 : a != b ? 2 : 0;
            case "drop":
                if (a == null) {
                    return 1;
                }
                return config.holders(a) == 1 && !told.kindOfVariable(node.a).ends.contains(a.state) ? 5 : 0;
            case "do":
            case "if":
            case "while":
                if (a == null) {
                    return 1;
                }
                Method method = told.kindOfVariable(node.a).methods.get(node.m);
                if (!method.sort.equals("look") && config.how[node.a] == 'l') {
                    return 3;
                }
                return method.does.containsKey(a.state) ? 0 : 4;
            default:
                return 0;
        }
    }

    /** What comes behind a STATEMENT that is not WRONG. */
    private static Config next(Told told, Config before, boolean yes) {
        Config config = before.copy();
        Node node = told.all.get(config.place);
        config.place = yes ? node.yes : node.no;
        switch (node.sort) {
            case "new":
                config.held[node.a] = new Thing();
                config.how[node.a] = 'w';
                break;
            case "move":
                config.held[node.a] = config.held[node.b];
                config.how[node.a] = config.how[node.b];
                config.held[node.b] = null;
                config.how[node.b] = 'n';
                break;
            case "share":
                config.held[node.a] = config.held[node.b];
                config.how[node.a] = 's';
                config.how[node.b] = 's';
                break;
            case "lend":
                config.held[node.a] = config.held[node.b];
                config.how[node.a] = 'l';
                config.how[node.b] = config.how[node.b] == 'w' ? 'l' : config.how[node.b];
                break;
            case "join":
                config.held[node.b] = null;
                config.how[node.b] = 'n';
                if (config.holders(config.held[node.a]) == 1) {
                    config.how[node.a] = 'w';
                }
                break;
            case "drop":
                config.held[node.a] = null;
                config.how[node.a] = 'n';
                break;
            case "do":
            case "if":
            case "while":
                Thing thing = config.held[node.a];
                Method method = told.kindOfVariable(node.a).methods.get(node.m);
                thing.state = method.does.get(thing.state)[yes ? 0 : 1];
                break;
            default:
                break;
        }
        return config;
    }

    static final class Found {
        final Map<String, Config> configs = new LinkedHashMap<>();
        final Map<String, String> from = new HashMap<>();
        boolean more;
        int wrongs;
        String firstWrong;
        int reason;
        int good;
    }

    private static Found explore(Told told) {
        Found found = new Found();
        ArrayDeque<String> open = new ArrayDeque<>();
        Config beginning = Config.beginning(told.names.size());
        found.configs.put(beginning.text(), beginning);
        open.add(beginning.text());
        while (!open.isEmpty() && !found.more) {
            String text = open.remove();
            Config config = found.configs.get(text);
            int reason = wrong(told, config);
            if (reason != 0) {
                found.wrongs++;
                if (found.firstWrong == null) {
                    found.firstWrong = text;
                    found.reason = reason;
                }
                continue;
            }
            if (config.place == told.all.size()) {
                found.good++;
                continue;
            }
            boolean choice = told.all.get(config.place).no >= 0;
            for (int branch = 0; branch < (choice ? 2 : 1); branch++) {
                Config next = next(told, config, branch == 0);
                if (found.configs.containsKey(next.text())) {
                    continue;
                }
                if (found.configs.size() == 1000) {
                    found.more = true;
                    break;
                }
                found.configs.put(next.text(), next);
                found.from.put(next.text(), text);
                open.add(next.text());
            }
        }
        return found;
    }

    private static List<Integer> wrongPath(Found found) {
        List<Integer> path = new ArrayList<>();
        for (String text = found.firstWrong; text != null; text = found.from.get(text)) {
            path.add(0, found.configs.get(text).place);
        }
        return path;
    }

    // ---- CHECK

    /** What may be there: of each VARIABLE sets, of each two whether they MAY and MUST be one. */
    static final class View {
        final List<Set<Character>> how = new ArrayList<>();
        final List<Set<Integer>> states = new ArrayList<>();
        final Set<Set<Integer>> may = new HashSet<>();
        final Set<Set<Integer>> must = new HashSet<>();

        static View beginning(int variables) {
            View view = new View();
            for (int v = 0; v < variables; v++) {
                view.how.add(new TreeSet<>(Set.of('n')));
                view.states.add(new TreeSet<>());
            }
            return view;
        }

        View copy() {
            View copy = new View();
            for (int v = 0; v < how.size(); v++) {
                copy.how.add(new TreeSet<>(how.get(v)));
                copy.states.add(new TreeSet<>(states.get(v)));
            }
            copy.may.addAll(may);
            copy.must.addAll(must);
            return copy;
        }

        /** Null stands for a PLACE to which nothing has come. */
        static View together(View one, View two) {
            if (one == null || two == null) {
                return one == null ? two : one;
            }
            View view = one.copy();
            for (int v = 0; v < view.how.size(); v++) {
                view.how.get(v).addAll(two.how.get(v));
                view.states.get(v).addAll(two.states.get(v));
            }
            view.may.addAll(two.may);
            view.must.retainAll(two.must);
            return view;
        }

        boolean same(View other) {
            return other != null && how.equals(other.how) && states.equals(other.states)
                && may.equals(other.may) && must.equals(other.must);
        }

        Set<Integer> mates(Set<Set<Integer>> pairs, int v) {
            Set<Integer> mates = new TreeSet<>();
            for (Set<Integer> pair : pairs) {
                if (pair.contains(v)) {
                    mates.addAll(pair);
                }
            }
            mates.remove(v);
            return mates;
        }

        void oneWithNone(int v) {
            may.removeIf(pair -> pair.contains(v));
            must.removeIf(pair -> pair.contains(v));
        }

        void none(int v) {
            oneWithNone(v);
            how.set(v, new TreeSet<>(Set.of('n')));
            states.set(v, new TreeSet<>());
        }

        void takeOver(int a, int b) {
            oneWithNone(a);
            states.set(a, new TreeSet<>(states.get(b)));
            for (int w : mates(may, b)) {
                may.add(Set.of(a, w));
            }
            for (int w : mates(must, b)) {
                must.add(Set.of(a, w));
            }
        }

        void one(int a, int b) {
            may.add(Set.of(a, b));
            must.add(Set.of(a, b));
        }
    }

    private static Set<Integer> comeOf(Method method, Set<Integer> states, boolean yes) {
        Set<Integer> came = new TreeSet<>();
        for (int state : states) {
            if (method.does.containsKey(state)) {
                came.add(method.does.get(state)[yes ? 0 : 1]);
            }
        }
        return came;
    }

    /** Null if nothing goes on. */
    private static View behind(Told told, Node node, View before, boolean yes) {
        View view = before.copy();
        boolean lacks = node.b >= 0 && before.how.get(node.b).contains('n');
        switch (node.sort) {
            case "new":
                view.none(node.a);
                view.how.set(node.a, new TreeSet<>(Set.of('w')));
                view.states.get(node.a).add(0);
                break;
            case "move":
                view.takeOver(node.a, node.b);
                view.how.set(node.a, new TreeSet<>(before.how.get(node.b)));
                view.none(node.b);
                break;
            case "share":
                view.takeOver(node.a, node.b);
                view.one(node.a, node.b);
                view.how.set(node.a, new TreeSet<>(lacks ? Set.of('s', 'n') : Set.of('s')));
                view.how.set(node.b, new TreeSet<>(lacks ? Set.of('s', 'n') : Set.of('s')));
                break;
            case "lend":
                view.takeOver(node.a, node.b);
                view.one(node.a, node.b);
                view.how.set(node.a, new TreeSet<>(lacks ? Set.of('l', 'n') : Set.of('l')));
                if (view.how.get(node.b).remove('w')) {
                    view.how.get(node.b).add('l');
                }
                break;
            case "join":
                view.none(node.b);
                if (view.mates(view.may, node.a).isEmpty()) {
                    view.how.set(node.a, new TreeSet<>(Set.of('w')));
                } else if (view.mates(view.must, node.a).isEmpty()) {
                    view.how.get(node.a).add('w');
                }
                break;
            case "drop":
                view.none(node.a);
                break;
            case "do":
            case "if":
            case "while":
                Method method = told.kindOfVariable(node.a).methods.get(node.m);
                Set<Integer> came = comeOf(method, before.states.get(node.a), yes);
                if (came.isEmpty()) {
                    return null;
                }
                view.states.set(node.a, came);
                Set<Integer> certain = before.mates(before.must, node.a);
                for (int w : before.mates(before.may, node.a)) {
                    Set<Integer> theirs = comeOf(method, before.states.get(w), yes);
                    if (!certain.contains(w)) {
                        theirs.addAll(before.states.get(w));
                    }
                    view.states.set(w, theirs);
                }
                break;
            default:
                break;
        }
        return view;
    }

    /** Jacobi's way: all PLACES anew from all others, till nothing changes. */
    private static View[] flow(Told told) {
        View[] views = new View[told.all.size() + 1];
        boolean changed = true;
        while (changed) {
            View[] next = new View[views.length];
            next[0] = View.beginning(told.names.size());
            for (Node node : told.all) {
                View here = views[node.number];
                if (here == null) {
                    continue;
                }
                next[node.yes] = View.together(next[node.yes], behind(told, node, here, true));
                if (node.no >= 0) {
                    next[node.no] = View.together(next[node.no], behind(told, node, here, false));
                }
            }
            changed = false;
            for (int place = 0; place < views.length; place++) {
                // What has come stays: paths come together with what was there.
                next[place] = View.together(views[place], next[place]);
                changed |= next[place] != null && !next[place].same(views[place]);
            }
            views = next;
        }
        return views;
    }

    private static boolean noEnd(Told told, View view, int v) {
        return !told.kindOfVariable(v).ends.containsAll(view.states.get(v));
    }

    private static int wrong(Told told, int place, View view) {
        if (view == null) {
            return 0;
        }
        if (place == told.all.size()) {
            for (int v = 0; v < told.names.size(); v++) {
                if (noEnd(told, view, v)) {
                    return 5;
                }
            }
            return 0;
        }
        Node node = told.all.get(place);
        boolean aHolds = node.a >= 0 && !view.how.get(node.a).equals(Set.of('n'));
        boolean aLacks = node.a >= 0 && view.how.get(node.a).contains('n');
        boolean bLacks = node.b >= 0 && view.how.get(node.b).contains('n');
        switch (node.sort) {
            case "new":
                return aHolds ? 1 : 0;
            case "move":
            case "lend":
                return aHolds || bLacks ? 1 : 0;
            case "share":
                return aHolds || bLacks ? 1 : view.how.get(node.b).contains('l') ? 3 : 0;
            case "join":
                return aLacks || bLacks ? 1 : view.must.contains(Set.of(node.a, node.b)) ? 0 : 2;
            case "drop":
                return aLacks ? 1
                    : view.mates(view.must, node.a).isEmpty() && noEnd(told, view, node.a) ? 5 : 0;
            case "do":
            case "if":
            case "while":
                if (aLacks) {
                    return 1;
                }
                Method method = told.kindOfVariable(node.a).methods.get(node.m);
                if (!method.sort.equals("look") && view.how.get(node.a).contains('l')) {
                    return 3;
                }
                return method.does.keySet().containsAll(view.states.get(node.a)) ? 0 : 4;
            default:
                return 0;
        }
    }

    private static List<Integer> wrongPlaces(Told told, View[] views) {
        List<Integer> places = new ArrayList<>();
        for (int place = 0; place < views.length; place++) {
            if (wrong(told, place, views[place]) != 0) {
                places.add(place);
            }
        }
        return places;
    }

    private static boolean accepted(Told told) {
        return wrongPlaces(told, flow(told)).isEmpty();
    }

    /** The program with a STATEMENT truly taken out of it, all others numbered anew. */
    private static Told leaveOut(Told told, int i) {
        Told less = new Told();
        less.kinds.addAll(told.kinds);
        less.names.addAll(told.names);
        less.kindOf.addAll(told.kindOf);
        less.body = copyBut(told.body, told.all.get(i));
        less.number();
        return less;
    }

    private static List<Node> copyBut(List<Node> block, Node but) {
        if (block == null) {
            return null;
        }
        List<Node> copy = new ArrayList<>();
        for (Node node : block) {
            if (node != but) {
                Node one = new Node();
                one.sort = node.sort;
                one.a = node.a;
                one.b = node.b;
                one.m = node.m;
                one.first = copyBut(node.first, but);
                one.other = copyBut(node.other, but);
                copy.add(one);
            }
        }
        return copy;
    }

    // ---- the face

    private Told told = new Told();
    private StringBuilder tape = new StringBuilder();
    private int status;
    private int faultSort = -1;
    private int faultPlace = -1;

    private Found foundOnce;
    private View[] viewsOnce;

    private Found found() {
        if (foundOnce == null) {
            foundOnce = explore(told);
        }
        return foundOnce;
    }

    private View[] views() {
        if (viewsOnce == null) {
            viewsOnce = flow(told);
        }
        return viewsOnce;
    }

    private int ok(int value) {
        status = 0;
        return value;
    }

    private int no(int reason) {
        status = reason;
        return -1;
    }

    private static int bits(Iterable<Integer> numbers) {
        int bits = 0;
        for (int number : numbers) {
            bits |= 1 << number;
        }
        return bits;
    }

    private static int howBits(Iterable<Character> how) {
        int bits = 0;
        for (char one : how) {
            bits |= 1 << "nlsw".indexOf(one);
        }
        return bits;
    }

    private Kind kindOrNull(int k) {
        return k >= 0 && k < told.kinds.size() ? told.kinds.get(k) : null;
    }

    private Method methodOrNull(int k, int m) {
        Kind kind = kindOrNull(k);
        return kind != null && m >= 0 && m < kind.methods.size() ? kind.methods.get(m) : null;
    }

    private boolean isState(int k, int state) {
        Kind kind = kindOrNull(k);
        return kind != null && state >= 0 && state < kind.states.size();
    }

    int status() {
        return status;
    }

    int feed(int a, int b, int c, int d, int e) {
        if (tape.length() + 20 > 900) {
            return -1;
        }
        for (int four : new int[] {a, b, c, d, e}) {
            for (int i = 3; i >= 0; i--) {
                tape.append((char) (four >>> (8 * i) & 255));
            }
        }
        return tape.length();
    }

    int load(int n) {
        if (n < 0 || n > tape.length()) {
            return no(1);
        }
        String text = tape.substring(0, n);
        tape = new StringBuilder();
        try {
            told = new Reading(text).read();
        } catch (Fault fault) {
            faultSort = fault.sort;
            faultPlace = fault.place;
            return no(9);
        }
        faultSort = 0;
        faultPlace = -1;
        foundOnce = null;
        viewsOnce = null;
        return ok(told.all.size());
    }

    int fault(int what) {
        return what == 0 ? faultSort : what == 1 ? faultPlace : -1;
    }

    int many(int what) {
        if (what < 0 || what > 2) {
            return no(1);
        }
        return ok(what == 0 ? told.kinds.size() : what == 1 ? told.names.size() : told.all.size());
    }

    /** Fewest METHODS from each STATE to an end; a STATE that isn't there has none. */
    private static Map<Integer, Integer> steps(Kind kind) {
        Map<Integer, Integer> steps = new TreeMap<>();
        for (int end : kind.ends) {
            steps.put(end, 0);
        }
        for (int round = 1; round <= 6; round++) {
            Map<Integer, Integer> more = new TreeMap<>();
            for (Method method : kind.methods) {
                for (Map.Entry<Integer, int[]> does : method.does.entrySet()) {
                    for (int to : does.getValue()) {
                        if (steps.containsKey(to) && !steps.containsKey(does.getKey())) {
                            more.put(does.getKey(), round);
                        }
                    }
                }
            }
            steps.putAll(more);
        }
        return steps;
    }

    int kind(int k, int what) {
        if (what < 0 || what > 5) {
            return no(1);
        }
        Kind kind = kindOrNull(k);
        if (kind == null) {
            return no(2);
        }
        if (what < 3) {
            return ok(what == 0 ? kind.states.size() : what == 1 ? kind.methods.size() : bits(kind.ends));
        }
        if (what == 3) {
            int count = 0;
            for (int its : told.kindOf) {
                count += its == k ? 1 : 0;
            }
            return ok(count);
        }
        Set<Integer> reached = new TreeSet<>();
        ArrayDeque<Integer> open = new ArrayDeque<>();
        open.add(0);
        while (!open.isEmpty()) {
            int state = open.remove();
            if (reached.add(state)) {
                for (Method method : kind.methods) {
                    if (method.does.containsKey(state)) {
                        open.add(method.does.get(state)[0]);
                        open.add(method.does.get(state)[1]);
                    }
                }
            }
        }
        if (what == 5) {
            reached.removeAll(steps(kind).keySet());
        }
        return ok(bits(reached));
    }

    int method(int k, int m, int what) {
        if (what < 0 || what > 1) {
            return no(1);
        }
        Method method = methodOrNull(k, m);
        if (method == null) {
            return no(2);
        }
        return ok(what == 0 ? Arrays.asList("call", "test", "look").indexOf(method.sort)
            : bits(method.does.keySet()));
    }

    int comes(int k, int m, int state, boolean yes) {
        Method method = methodOrNull(k, m);
        if (method == null || !isState(k, state)) {
            return no(2);
        }
        return method.does.containsKey(state) ? ok(method.does.get(state)[yes ? 0 : 1]) : no(5);
    }

    int tell(int k, int m, int state, boolean yes, int to) {
        if (to < -1) {
            return no(1);
        }
        Method method = methodOrNull(k, m);
        if (method == null || !isState(k, state) || to >= 0 && !isState(k, to)) {
            return no(2);
        }
        int[] does = method.does.get(state);
        int before = does == null ? -1 : does[yes ? 0 : 1];
        if (before == to) {
            return no(4);
        }
        if (method.sort.equals("look") && to >= 0 && to != state) {
            return no(5);
        }
        if (to == -1) {
            method.does.remove(state);
        } else if (does != null && method.sort.equals("test")) {
            does[yes ? 0 : 1] = to;
        } else {
            method.does.put(state, new int[] {to, to});
        }
        foundOnce = null;
        viewsOnce = null;
        return ok(before);
    }

    int toEnd(int k, int state) {
        if (!isState(k, state)) {
            return no(2);
        }
        Integer steps = steps(kindOrNull(k)).get(state);
        return steps == null ? no(5) : ok(steps);
    }

    int towards(int k, int state) {
        if (!isState(k, state)) {
            return no(2);
        }
        Kind kind = kindOrNull(k);
        Map<Integer, Integer> steps = steps(kind);
        if (!steps.containsKey(state) || steps.get(state) == 0) {
            return no(5);
        }
        for (int m = 0; m < kind.methods.size(); m++) {
            int[] does = kind.methods.get(m).does.get(state);
            for (int i = 0; does != null && i < 2; i++) {
                if (steps.containsKey(does[i]) && steps.get(does[i]) == steps.get(state) - 1) {
                    return ok(m);
                }
            }
        }
        throw new IllegalStateException("no way where there must be one");
    }

    int alike(int k, int state, int other) {
        if (!isState(k, state) || !isState(k, other)) {
            return no(2);
        }
        // Classes, parted by what can be seen of their states, till none is parted any more.
        Kind kind = kindOrNull(k);
        Map<Integer, String> classes = new TreeMap<>();
        for (int s = 0; s < kind.states.size(); s++) {
            classes.put(s, "");
        }
        for (int round = 0; round < 8; round++) {
            Map<String, Integer> numbers = new TreeMap<>();
            Map<Integer, String> finer = new TreeMap<>();
            for (int s : classes.keySet()) {
                StringBuilder seen = new StringBuilder(kind.ends.contains(s) ? "e" : "n");
                for (Method method : kind.methods) {
                    int[] does = method.does.get(s);
                    seen.append(does == null ? "/-" : "/" + classes.get(does[0]) + "," + classes.get(does[1]));
                }
                numbers.putIfAbsent(seen.toString(), numbers.size());
                finer.put(s, String.valueOf(numbers.get(seen.toString())));
            }
            classes = finer;
        }
        return ok(classes.get(state).equals(classes.get(other)) ? 1 : 0);
    }

    private static BigInteger countRows(Kind kind, int state, int n, boolean end, Map<String, BigInteger> known) {
        if (n == 0) {
            return !end || kind.ends.contains(state) ? BigInteger.ONE : BigInteger.ZERO;
        }
        String key = state + " " + n;
        if (known.containsKey(key)) {
            return known.get(key);
        }
        BigInteger sum = BigInteger.ZERO;
        for (Method method : kind.methods) {
            int[] does = method.does.get(state);
            if (does != null) {
                sum = sum.add(countRows(kind, does[0], n - 1, end, known));
                if (method.sort.equals("test")) {
                    sum = sum.add(countRows(kind, does[1], n - 1, end, known));
                }
            }
        }
        known.put(key, sum);
        return sum;
    }

    int rows(int k, int n, boolean end) {
        if (n < 0 || n > 12) {
            return no(1);
        }
        Kind kind = kindOrNull(k);
        if (kind == null) {
            return no(2);
        }
        return ok(countRows(kind, 0, n, end, new HashMap<>()).mod(BigInteger.valueOf(1000000007)).intValue());
    }

    int statement(int i, int what) {
        if (what < 0 || what > 6) {
            return no(1);
        }
        if (i < 0 || i >= told.all.size()) {
            return no(2);
        }
        Node node = told.all.get(i);
        return ok(new int[] {SORTS.indexOf(node.sort), node.a, node.b, node.m, node.yes, node.no, node.depth}[what]);
    }

    int variable(int v) {
        return v < 0 || v >= told.names.size() ? no(2) : ok(told.kindOf.get(v));
    }

    int check(int what) {
        if (what < 0 || what > 4) {
            return no(1);
        }
        View[] views = views();
        List<Integer> wrongs = wrongPlaces(told, views);
        if (what == 0 || what == 3) {
            return ok(what == 3 ? wrongs.size() : wrongs.isEmpty() ? 1 : 0);
        }
        if (what == 4) {
            int count = 0;
            for (View view : views) {
                count += view == null ? 0 : 1;
            }
            return ok(count);
        }
        if (wrongs.isEmpty()) {
            return no(5);
        }
        return ok(what == 1 ? wrongs.get(0) : wrong(told, wrongs.get(0), views[wrongs.get(0)]));
    }

    private boolean noPlace(int place, int v) {
        return place < 0 || place > told.all.size() || v < 0 || v >= told.names.size();
    }

    int at(int place, int v, int what) {
        if (what < 0 || what > 4) {
            return no(1);
        }
        if (noPlace(place, v)) {
            return no(2);
        }
        View view = views()[place];
        if (view == null) {
            return no(5);
        }
        switch (what) {
            case 0:
                return ok(howBits(view.how.get(v)));
            case 1:
                return ok(bits(view.states.get(v)));
            case 2:
                return ok(bits(view.mates(view.may, v)));
            case 3:
                return ok(bits(view.mates(view.must, v)));
            default:
                return ok(wrong(told, place, view));
        }
    }

    int without(int i) {
        if (i < 0 || i >= told.all.size()) {
            return no(2);
        }
        return ok(accepted(leaveOut(told, i)) ? 1 : 0);
    }

    int mend() {
        if (accepted(told)) {
            return no(5);
        }
        for (int i = 0; i < told.all.size(); i++) {
            if (accepted(leaveOut(told, i))) {
                return ok(i);
            }
        }
        return no(5);
    }

    int paths(int what) {
        if (what < 0 || what > 6) {
            return no(1);
        }
        Found found = found();
        if (found.more) {
            return no(6);
        }
        if ((what == 2 || what == 3) && found.wrongs == 0) {
            return no(5);
        }
        int most = 0;
        for (Config config : found.configs.values()) {
            most = Math.max(most, config.things());
        }
        switch (what) {
            case 0:
                return ok(found.configs.size());
            case 1:
                return ok(found.wrongs);
            case 2:
                return ok(wrongPath(found).size());
            case 3:
                return ok(found.reason);
            case 4:
                return ok(found.wrongs == 0 && !wrongPlaces(told, views()).isEmpty() ? 1 : 0);
            case 5:
                return ok(most);
            default:
                return ok(found.good);
        }
    }

    int path(int i) {
        if (i < 0) {
            return no(1);
        }
        Found found = found();
        if (found.more) {
            return no(6);
        }
        List<Integer> path = wrongPath(found);
        return i < path.size() ? ok(path.get(i)) : no(5);
    }

    int truly(int place, int v, int what) {
        if (what < 0 || what > 3) {
            return no(1);
        }
        if (noPlace(place, v)) {
            return no(2);
        }
        Found found = found();
        if (found.more) {
            return no(6);
        }
        boolean any = false;
        Set<Character> how = new TreeSet<>();
        Set<Integer> states = new TreeSet<>();
        Set<Integer> some = new TreeSet<>();
        Set<Integer> all = null;
        for (Config config : found.configs.values()) {
            if (config.place != place) {
                continue;
            }
            any = true;
            how.add(config.how[v]);
            if (config.held[v] == null) {
                continue;
            }
            states.add(config.held[v].state);
            Set<Integer> mates = new TreeSet<>();
            for (int w = 0; w < config.held.length; w++) {
                if (w != v && config.held[w] == config.held[v]) {
                    mates.add(w);
                }
            }
            some.addAll(mates);
            if (all == null) {
                all = mates;
            } else {
                all.retainAll(mates);
            }
        }
        if (!any) {
            return no(5);
        }
        switch (what) {
            case 0:
                return ok(howBits(how));
            case 1:
                return ok(bits(states));
            case 2:
                return ok(bits(some));
            default:
                return ok(all == null ? 0 : bits(all));
        }
    }

    int left(int k) {
        if (kindOrNull(k) == null) {
            return no(2);
        }
        Found found = found();
        if (found.more) {
            return no(6);
        }
        Set<Integer> states = new TreeSet<>();
        for (Config config : found.configs.values()) {
            boolean atEnd = config.place == told.all.size();
            Node node = atEnd ? null : told.all.get(config.place);
            for (int v = 0; v < config.held.length; v++) {
                boolean dropped = node != null && node.sort.equals("drop") && node.a == v
                    && config.held[v] != null && config.holders(config.held[v]) == 1;
                if (told.kindOf.get(v) == k && config.held[v] != null && (atEnd || dropped)) {
                    states.add(config.held[v].state);
                }
            }
        }
        return ok(bits(states));
    }

    int never(int i) {
        if (i < -1) {
            return no(1);
        }
        Found found = found();
        if (found.more) {
            return no(6);
        }
        List<Integer> never = new ArrayList<>();
        for (Node node : told.all) {
            never.add(node.number);
        }
        for (Config config : found.configs.values()) {
            never.remove(Integer.valueOf(config.place));
        }
        return i == -1 ? ok(never.size()) : i < never.size() ? ok(never.get(i)) : no(5);
    }

    /** {STATEMENTS gone through, how it went, PLACE, things that were new}. */
    private int[] goThrough(int seed) {
        Config config = Config.beginning(told.names.size());
        long draw = seed;
        int steps = 0;
        int made = 0;
        while (config.place != told.all.size()) {
            if (steps == 300) {
                return new int[] {steps, 6, config.place, made};
            }
            steps++;
            int reason = wrong(told, config);
            if (reason != 0) {
                return new int[] {steps, reason, config.place, made};
            }
            Node node = told.all.get(config.place);
            boolean yes = true;
            if (node.first != null) {
                draw = (75 * draw + 74) % 65537;
                yes = draw % 2 == 0;
            }
            made += node.sort.equals("new") ? 1 : 0;
            config = next(told, config, yes);
        }
        return new int[] {steps, wrong(told, config), config.place, made};
    }

    int run(int seed, int what) {
        if (seed < 0 || seed > 65536 || what < 0 || what > 3) {
            return no(1);
        }
        return ok(goThrough(seed)[what]);
    }

    int runs(int seed, int n, int how) {
        if (seed < 0 || n < 1 || n > 50 || (long) seed + n - 1 > 65536 || how < 0 || how > 6) {
            return no(1);
        }
        int count = 0;
        for (int i = 0; i < n; i++) {
            count += goThrough(seed + i)[1] == how ? 1 : 0;
        }
        return ok(count);
    }
}
