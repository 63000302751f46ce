import java.util.ArrayDeque;
import java.util.ArrayList;
import java.util.Deque;
import java.util.HashMap;
import java.util.HashSet;
import java.util.List;
import java.util.Map;
import java.util.Random;
import java.util.Set;
import java.util.TreeMap;
import java.util.TreeSet;

/**
 * Long rows of calls, each answer compared with that of a second editor. The second one is written after the document
 * too, but in another way: models stay expressions, and what is left of a word to come is a list of expressions.
 * The rows are made from fixed seeds, so each run of this test makes the same calls.
 */
public final class OracleRuns {
    private static final int RUNS = 1500, CALLS = 512, MODELS = 20000;
    private static int wrong = 0;

    public static void main(String[] args) {
        for (int seed = 0; seed < MODELS && wrong < 20; seed++) {
            new Row(seed).compareModel();
        }
        for (int seed = 0; seed < RUNS && wrong < 20; seed++) {
            new Row(1_000_000 + seed).compareCalls();
        }
        System.out.println(wrong == 0 ? "all answers are as due" : wrong + " answers are not as due");
        if (wrong != 0) {
            System.exit(1);
        }
    }

    /** A part of a model; token is the place of its first token. */
    private record Part(int kind, int value, int token, Part x, Part y) {
        boolean mayBeEmpty() {
            return switch (kind) {
                case 0 -> false;
                case 1, 7 -> x.mayBeEmpty() && y.mayBeEmpty();
                case 2 -> x.mayBeEmpty() || y.mayBeEmpty();
                case 3, 4, 6 -> true;
                case 5 -> x.mayBeEmpty();
                default -> value / 4 == 0 || x.mayBeEmpty();
            };
        }

        long weight() {
            return switch (kind) {
                case 0 -> 1;
                case 6 -> 0;
                case 1, 2 -> x.weight() + y.weight();
                case 7 -> 2 * (x.weight() + y.weight());
                case 8 -> value % 4 * x.weight();
                default -> x.weight();
            };
        }
    }

    /** One name of a word: the NAME part that it comes from, and what can come behind it. */
    private record Step(Part name, List<Part> rest) {
    }

    private static List<Part> joined(List<Part> head, List<Part> tail) {
        List<Part> all = new ArrayList<>(head);
        all.addAll(tail);
        return List.copyOf(all);
    }

    private static Set<Step> steps(List<Part> parts) {
        Set<Step> found = new HashSet<>();
        if (parts.isEmpty()) {
            return found;
        }
        Part head = parts.get(0);
        List<Part> tail = parts.subList(1, parts.size());
        switch (head.kind) {
            case 0 -> found.add(new Step(head, List.copyOf(tail)));
            case 1 -> found.addAll(steps(joined(List.of(head.x, head.y), tail)));
            case 2 -> {
                found.addAll(steps(joined(List.of(head.x), tail)));
                found.addAll(steps(joined(List.of(head.y), tail)));
            }
            case 3 -> found.addAll(steps(joined(List.of(head.x), tail)));
            case 4 -> addRepeated(found, head.x, head, tail);
            case 5 -> addRepeated(found, head.x, new Part(4, 0, head.token, head.x, null), tail);
            case 7 -> {
                found.addAll(steps(joined(List.of(head.x, head.y), tail)));
                found.addAll(steps(joined(List.of(head.y, head.x), tail)));
            }
            case 8 -> addTimes(found, head, tail);
            default -> { }
        }
        if (head.mayBeEmpty()) {
            found.addAll(steps(tail));
        }
        return found;
    }

    private static void addRepeated(Set<Step> found, Part once, Part again, List<Part> tail) {
        for (Step s : steps(List.of(once))) {
            found.add(new Step(s.name, joined(s.rest, joined(List.of(again), tail))));
        }
    }

    private static void addTimes(Set<Step> found, Part times, List<Part> tail) {
        int min = times.value / 4;
        int max = times.value % 4;
        if (max > 1) {
            addRepeated(found, times.x, new Part(8, 4 * Math.max(0, min - 1) + max - 1, times.token, times.x, null), tail);
        } else {
            for (Step s : steps(List.of(times.x))) {
                found.add(new Step(s.name, joined(s.rest, tail)));
            }
        }
    }

    private static Map<List<Part>, Set<Step>> remembered = new HashMap<>();

    private static Set<List<Part>> after(Set<List<Part>> ways, int n) {
        Set<List<Part>> next = new HashSet<>();
        for (List<Part> way : ways) {
            for (Step s : remembered.computeIfAbsent(way, OracleRuns::steps)) {
                if (s.name.value == n) {
                    next.add(s.rest);
                }
            }
        }
        return next;
    }

    private static boolean isWord(Set<List<Part>> ways) {
        return ways.stream().anyMatch(way -> way.stream().allMatch(Part::mayBeEmpty));
    }

    /** The least NAME in doubt, over all sets of ways that a row of names can leave; -1 if there is none. */
    private static int leastInDoubt(Part model) {
        int least = -1;
        Set<Set<List<Part>>> seen = new HashSet<>();
        Deque<Set<List<Part>>> open = new ArrayDeque<>();
        open.add(Set.of(List.of(model)));
        while (!open.isEmpty()) {
            Set<List<Part>> ways = open.remove();
            if (!seen.add(ways)) {
                continue;
            }
            for (int n = 0; n <= 5; n++) {
                TreeSet<Integer> tokens = new TreeSet<>();
                for (List<Part> way : ways) {
                    for (Step s : remembered.computeIfAbsent(way, OracleRuns::steps)) {
                        if (s.name.value == n) {
                            tokens.add(s.name.token);
                        }
                    }
                }
                if (tokens.size() > 1 && (least == -1 || tokens.first() < least)) {
                    least = tokens.first();
                }
                if (!tokens.isEmpty()) {
                    open.add(after(ways, n));
                }
            }
        }
        return least;
    }

    private static final class Type {
        Part model;
        int least, greatest;
        final List<Integer> listed = new ArrayList<>();
        final int[] use = new int[4];
        final int[] of = new int[4];
    }

    private static final class Node {
        int name;
        Node parent;
        final List<Node> children = new ArrayList<>();
        Integer value;
        final Integer[] attributes = new Integer[4];
    }

    /** The second editor. */
    private static final class Oracle {
        final List<int[]> draft = new ArrayList<>();
        final Map<Integer, Type> types = new HashMap<>();
        final Map<Integer, Integer> typeOfName = new HashMap<>();
        final TreeMap<Integer, Node> nodes = new TreeMap<>();
        int place = -1;
        int read;

        boolean token(int kind, int value) {
            boolean good = kind >= 0 && kind <= 8 && draft.size() < 16;
            if (kind == 0) {
                good &= value >= 0 && value <= 5;
            }
            if (kind == 8) {
                good &= List.of(1, 2, 3, 5, 6, 7, 10, 11, 15).contains(value);
            }
            if (good) {
                draft.add(new int[] {kind, value});
            }
            return good;
        }

        private Part readPart() {
            if (read >= draft.size()) {
                return null;
            }
            int token = read++;
            int kind = draft.get(token)[0];
            int value = kind == 0 || kind == 8 ? draft.get(token)[1] : 0;
            if (kind == 0 || kind == 6) {
                return new Part(kind, value, token, null, null);
            }
            Part x = readPart();
            boolean two = kind == 1 || kind == 2 || kind == 7;
            Part y = two && x != null ? readPart() : null;
            return x == null || two && y == null ? null : new Part(kind, value, token, x, y);
        }

        int model(int t) {
            if (t < 0 || t > 5) {
                return -1;
            }
            read = 0;
            Part part = readPart();
            boolean whole = part != null && read == draft.size();
            draft.clear();
            if (!whole) {
                return 5;
            }
            if (part.weight() > 30) {
                return 6;
            }
            remembered.clear();
            int doubt = leastInDoubt(part);
            if (doubt >= 0) {
                place = doubt;
                return 7;
            }
            Type type = new Type();
            type.model = part;
            types.put(t, type);
            return 0;
        }

        int simple(int t, int least, int greatest) {
            if (t < 0 || t > 5) {
                return -1;
            }
            Type type = new Type();
            type.least = least;
            type.greatest = greatest;
            types.put(t, type);
            return 0;
        }

        int listed(int t, int v) {
            Type type = types.get(t);
            if (type == null || type.model != null || type.listed.contains(v) || type.listed.size() == 4) {
                return -1;
            }
            type.listed.add(v);
            return 0;
        }

        int attribute(int t, int a, int use, int s) {
            Type type = types.get(t);
            if (type == null || type.model == null || a < 0 || a > 3 || use < 0 || use > 2 || s < 0 || s > 5) {
                return -1;
            }
            type.use[a] = use;
            type.of[a] = s;
            return 0;
        }

        int element(int n, int t) {
            if (n < 0 || n > 5 || t < -1 || t > 5) {
                return -1;
            }
            typeOfName.put(n, t);
            return 0;
        }

        int insert(int e, int k, int n) {
            Node parent = nodes.get(e);
            boolean root = nodes.isEmpty();
            if (n < 0 || n > 5 || !root && (parent == null || k < 0 || k > parent.children.size() || nodes.size() == 24)) {
                return -1;
            }
            Node made = new Node();
            made.name = n;
            if (!root) {
                made.parent = parent;
                parent.children.add(k, made);
            }
            int number = 0;
            while (nodes.containsKey(number)) {
                number++;
            }
            nodes.put(number, made);
            return number;
        }

        private boolean isBelow(Node inner, Node outer) {
            return inner == outer || inner.parent != null && isBelow(inner.parent, outer);
        }

        int remove(int e) {
            Node gone = nodes.get(e);
            if (gone == null) {
                return -1;
            }
            int before = nodes.size();
            nodes.values().removeIf(node -> isBelow(node, gone));
            if (gone.parent != null) {
                gone.parent.children.remove(gone);
            }
            return before - nodes.size();
        }

        int move(int e, int p, int k) {
            Node moved = nodes.get(e);
            Node parent = nodes.get(p);
            if (moved == null || parent == null || isBelow(parent, moved)) {
                return -1;
            }
            List<Node> others = new ArrayList<>(parent.children);
            others.remove(moved);
            if (k < 0 || k > others.size()) {
                return -1;
            }
            moved.parent.children.remove(moved);
            parent.children.add(k, moved);
            moved.parent = parent;
            return 0;
        }

        int rename(int e, int n) {
            Node node = nodes.get(e);
            if (node == null || n < 0 || n > 5) {
                return -1;
            }
            node.name = n;
            return 0;
        }

        int value(int e, boolean has, int v) {
            Node node = nodes.get(e);
            if (node == null) {
                return -1;
            }
            node.value = has ? v : null;
            return 0;
        }

        int set(int e, int a, boolean has, int v) {
            Node node = nodes.get(e);
            if (node == null || a < 0 || a > 3) {
                return -1;
            }
            node.attributes[a] = has ? v : null;
            return 0;
        }

        private Type typeOf(Node node) {
            return node == null ? null : types.get(typeOfName.getOrDefault(node.name, -1));
        }

        private boolean isOf(Type type, Integer v) {
            return type != null && type.model == null && v != null && v >= type.least && v <= type.greatest
                && (type.listed.isEmpty() || type.listed.contains(v));
        }

        private Set<List<Part>> afterNames(Part model, List<Integer> names) {
            Set<List<Part>> ways = Set.of(List.of(model));
            for (int n : names) {
                ways = after(ways, n);
            }
            return ways;
        }

        private List<Integer> childNames(Node node) {
            return new ArrayList<>(node.children.stream().map(c -> c.name).toList());
        }

        private int statusOf(Node node) {
            if (node == null) {
                return -1;
            }
            Type type = typeOf(node);
            if (type == null) {
                return 1;
            }
            boolean simple = type.model == null;
            if (simple ? !node.children.isEmpty() : !isWord(afterNames(type.model, childNames(node)))) {
                return 2;
            }
            if (simple ? !isOf(type, node.value) : node.value != null) {
                return 3;
            }
            for (int a = 0; a < 4; a++) {
                boolean has = node.attributes[a] != null;
                boolean fits = simple || type.use[a] == 0 ? !has : has ? isOf(types.get(type.of[a]), node.attributes[a]) : type.use[a] == 1;
                if (!fits) {
                    return 4;
                }
            }
            return 0;
        }

        int status(int e) {
            return statusOf(nodes.get(e));
        }

        private void inOrder(Node node, List<Node> all) {
            all.add(node);
            node.children.forEach(c -> inOrder(c, all));
        }

        int numberOf(Node node) {
            return nodes.entrySet().stream().filter(x -> x.getValue() == node).findFirst().get().getKey();
        }

        int check(int what) {
            if (what < 0 || what > 2) {
                return -1;
            }
            List<Node> all = new ArrayList<>();
            if (!nodes.isEmpty()) {
                inOrder(nodes.get(0), all);
            }
            if (what == 2) {
                return all.size();
            }
            all.removeIf(node -> statusOf(node) == 0);
            return what == 0 ? all.size() : all.isEmpty() ? -1 : numberOf(all.get(0));
        }

        private boolean isComplex(int e) {
            Type type = typeOf(nodes.get(e));
            return type != null && type.model != null;
        }

        int may(int e, int k) {
            if (!isComplex(e) || k < 0 || k > nodes.get(e).children.size()) {
                return 0;
            }
            int names = 0;
            for (int n = 0; n <= 5; n++) {
                List<Integer> row = childNames(nodes.get(e));
                row.add(k, n);
                names += isWord(afterNames(typeOf(nodes.get(e)).model, row)) ? 1 << n : 0;
            }
            return names;
        }

        int fitting(int e) {
            if (!isComplex(e)) {
                return -1;
            }
            List<Integer> row = childNames(nodes.get(e));
            int most = row.size();
            while (afterNames(typeOf(nodes.get(e)).model, row.subList(0, most)).isEmpty()) {
                most--;
            }
            return most;
        }

        int missing(int e) {
            if (!isComplex(e)) {
                return -1;
            }
            Set<List<Part>> ways = afterNames(typeOf(nodes.get(e)).model, childNames(nodes.get(e)));
            for (int added = 0; !ways.isEmpty() && added <= 40; added++) {
                if (isWord(ways)) {
                    return added;
                }
                Set<List<Part>> next = new HashSet<>();
                for (int n = 0; n <= 5; n++) {
                    next.addAll(after(ways, n));
                }
                ways = next;
            }
            return -1;
        }

        int child(int e, int k) {
            Node node = nodes.get(e);
            return node == null || k < 0 || k >= node.children.size() ? -1 : numberOf(node.children.get(k));
        }
    }

    /** One row of calls to both editors. */
    private static final class Row {
        final Random random;
        final int seed;
        final SchemaEditor x = new SchemaEditor();
        final Oracle o = new Oracle();
        final StringBuilder calls = new StringBuilder();
        int names = 6;
        int made = 0;

        Row(int seed) {
            this.seed = seed;
            this.random = new Random(seed);
        }

        private void due(String call, int got, int want) {
            made++;
            calls.append(call).append(" = ").append(want).append("; ");
            if (got != want) {
                wrong++;
                System.out.println("seed " + seed + ", call " + made + ": " + call + " answered " + got + ", due is " + want + "\n  " + calls);
            }
        }

        private int below(int bound) {
            return random.nextInt(bound);
        }

        /** Mostly from 0 to bound - 1, now and then outside. */
        private int about(int bound) {
            int[] outside = {-1, -2, bound, bound + 1, Integer.MIN_VALUE, Integer.MAX_VALUE};
            return below(20) == 0 ? outside[below(outside.length)] : below(bound);
        }

        private void token(int kind, int value) {
            due("token(" + kind + ", " + value + ")", x.token(kind, value) ? 1 : 0, o.token(kind, value) ? 1 : 0);
        }

        private void model(int t) {
            due("model(" + t + ")", x.model(t), o.model(t));
            due("place()", x.place(), o.place);
        }

        /** Drafts an expression of at most this many tokens; answers how many it has. */
        private int expression(int most) {
            int[] times = {1, 2, 3, 5, 6, 7, 10, 11, 15};
            if (most == 1 || below(6) == 0) {
                boolean nothing = below(12) == 0;
                token(nothing ? 6 : 0, nothing ? below(3) : below(names));
                return 1;
            }
            if (most == 2 || below(2) == 0) {
                int kind = new int[] {3, 4, 5, 8}[below(4)];
                token(kind, kind == 8 ? times[below(times.length)] : below(3));
                return 1 + expression(most - 1);
            }
            token(new int[] {1, 1, 2, 7}[below(4)], 0);
            int first = expression(most - 2);
            return 1 + first + expression(most - 1 - first);
        }

        void compareModel() {
            names = 1 + below(6);
            expression(1 + below(16));
            model(0);
            due("element(0, 0)", x.element(0, 0), o.element(0, 0));
            due("insert(0, 0, 0)", x.insert(0, 0, 0), o.insert(0, 0, 0));
            for (int k = 0; k < 8; k++) {
                ask(0);
                int may = x.may(0, k);
                int n = below(8) == 0 || may == 0 ? below(names) : Integer.numberOfTrailingZeros(may);
                due("insert(0, " + k + ", " + n + ")", x.insert(0, k, n), o.insert(0, k, n));
            }
            ask(0);
        }

        private void ask(int e) {
            due("status(" + e + ")", x.status(e), o.status(e));
            due("fitting(" + e + ")", x.fitting(e), o.fitting(e));
            due("missing(" + e + ")", x.missing(e), o.missing(e));
            int k = below(10);
            due("may(" + e + ", " + k + ")", x.may(e, k), o.may(e, k));
        }

        void compareCalls() {
            names = 2 + below(5);
            if (below(4) != 0) {
                beginWithSchema();
            }
            while (made < CALLS - 40 && wrong < 20) {
                if (below(5) == 0) {
                    changeSchema();
                } else if (below(2) == 0) {
                    changeDocument();
                } else {
                    askDocument();
                }
            }
            // No single one of these makes more than four calls, and none may go beyond the last that is promised.
            while (made < CALLS - 4) {
                askDocument();
            }
            while (made < CALLS) {
                int e = someElement();
                due("status(" + e + ")", x.status(e), o.status(e));
            }
        }

        private void beginWithSchema() {
            for (int t = 0; t < 6; t++) {
                due("element(" + t + ", " + t + ")", x.element(t, t), o.element(t, t));
                if (below(4) == 0) {
                    due("simple(" + t + ", -2, 5)", x.simple(t, -2, 5), o.simple(t, -2, 5));
                } else {
                    expression(1 + below(8));
                    model(t);
                }
            }
        }

        private void changeSchema() {
            int t = about(6);
            switch (below(6)) {
                case 0 -> {
                    expression(1 + below(12));
                    model(t);
                }
                case 1 -> token(about(9), about(16));
                case 2 -> {
                    int least = below(8) - 4;
                    int greatest = least + below(9) - 1;
                    due("simple(" + t + ", " + least + ", " + greatest + ")", x.simple(t, least, greatest), o.simple(t, least, greatest));
                }
                case 3 -> {
                    int v = below(9) - 4;
                    due("listed(" + t + ", " + v + ")", x.listed(t, v), o.listed(t, v));
                }
                case 4 -> {
                    int a = about(4);
                    int use = about(3);
                    int s = about(6);
                    due("attribute(" + t + ", " + a + ", " + use + ", " + s + ")", x.attribute(t, a, use, s), o.attribute(t, a, use, s));
                }
                default -> {
                    int n = about(6);
                    due("element(" + n + ", " + t + ")", x.element(n, t), o.element(n, t));
                }
            }
        }

        private int someElement() {
            return below(25) == 0 ? about(24) : below(Math.max(1, o.nodes.size()));
        }

        private void changeDocument() {
            int e = someElement();
            int k = below(30) == 0 ? about(24) : below(o.nodes.containsKey(e) ? o.nodes.get(e).children.size() + 1 : 3);
            int n = below(names);
            boolean has = below(2) == 0;
            int v = below(9) - 4;
            int may = o.may(e, k);
            if (may != 0 && below(3) != 0) {
                n = Integer.numberOfTrailingZeros(may);
            }
            n = below(30) == 0 ? about(6) : n;
            switch (below(12)) {
                case 0, 1, 2, 3 -> due("insert(" + e + ", " + k + ", " + n + ")", x.insert(e, k, n), o.insert(e, k, n));
                case 4 -> {
                    int gone = below(4) == 0 ? e : Math.max(e, someElement());
                    due("remove(" + gone + ")", x.remove(gone), o.remove(gone));
                }
                case 5, 6 -> {
                    int moved = someElement();
                    due("move(" + moved + ", " + e + ", " + k + ")", x.move(moved, e, k), o.move(moved, e, k));
                }
                case 7 -> due("rename(" + e + ", " + n + ")", x.rename(e, n), o.rename(e, n));
                case 8, 9 -> due("value(" + e + ", " + has + ", " + v + ")", x.value(e, has, v), o.value(e, has, v));
                default -> {
                    int a = about(4);
                    due("set(" + e + ", " + a + ", " + has + ", " + v + ")", x.set(e, a, has, v), o.set(e, a, has, v));
                }
            }
        }

        private void askDocument() {
            int e = someElement();
            if (below(3) != 0) {
                ask(e);
                return;
            }
            int what = about(3);
            due("check(" + what + ")", x.check(what), o.check(what));
            int k = about(6);
            due("child(" + e + ", " + k + ")", x.child(e, k), o.child(e, k));
            due("place()", x.place(), o.place);
        }
    }
}
