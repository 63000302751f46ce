import java.util.ArrayList;
import java.util.LinkedHashMap;
import java.util.List;
import java.util.Map;

/**
 * Promise 21: the order and the limits; and that a call that is refused changes nothing. For the latter two editors are
 * brought to the same state, and one of them gets the refused call; then both get the same calls, and must tell the same.
 */
public final class RefusedRuns extends Runs {
    private interface Calls {
        void on(Editor x);
    }

    private static final Map<String, Calls> STATES = new LinkedHashMap<>();
    private static final Map<String, Calls> PROBES = new LinkedHashMap<>();
    private static final int[] SOME = {LEAST, -3, -2, -1, 0, 1, 2, 3, 4, 5, 6, 9, 10, GREATEST};

    public static void main(String[] args) {
        sentence("Promise 21: 'the answer is OK where it is not BAD'", RefusedRuns::okWhereNotBad);
        sentence("Promise 21: 'that t is outside 0..5 is tested before the draft'", RefusedRuns::typeBeforeDraft);
        STATES.put("a new object", x -> { });
        STATES.put("a draft begun", x -> x.draft(",b"));
        STATES.put("a full draft", x -> x.draft("?????????????,bc"));
        STATES.put("a schema alone", RefusedRuns::schema);
        STATES.put("a schema and a document", RefusedRuns::schemaAndDocument);
        STATES.put("a schema, a document and a draft", x -> {
            schemaAndDocument(x);
            x.draft(",b");
        });
        STATES.put("a full document", RefusedRuns::fullDocument);
        PROBES.put("looking", RefusedRuns::look);
        PROBES.put("the draft as it is", RefusedRuns::useDraft);
        PROBES.put("drafting on", RefusedRuns::draftOn);
        PROBES.put("room in the draft", RefusedRuns::roomInDraft);
        PROBES.put("listing", RefusedRuns::list);
        PROBES.put("values of types", RefusedRuns::valuesOfTypes);
        PROBES.put("attributes of types", RefusedRuns::attributesOfTypes);
        PROBES.put("words of types", RefusedRuns::wordsOfTypes);
        PROBES.put("types of names", RefusedRuns::typesOfNames);
        PROBES.put("filling", RefusedRuns::fill);
        PROBES.put("removing", RefusedRuns::removeAll);
        PROBES.put("values of elements", RefusedRuns::valuesOfElements);
        PROBES.put("attributes of elements", RefusedRuns::attributesOfElements);
        for (Map.Entry<String, Calls> state : STATES.entrySet()) {
            always(state.getKey());
        }
        sentence("Promise 2: 'False, changing nothing', where there are 16", RefusedRuns::fullDraft);
        sentence("Promise 6: 'BAD if t is no SIMPLE type, v is listed already, or there are 4'", RefusedRuns::listed);
        sentence("Promise 7: 'BAD if t is no COMPLEX type'", RefusedRuns::attribute);
        sentence("Promise 9: 'e is no element, k is outside', and a document", RefusedRuns::insert);
        sentence("Promise 9: 'or there are 24'", RefusedRuns::insertInFull);
        sentence("Promise 11: 'p is e or below it, or k is outside'", RefusedRuns::move);
        sentence("Promises 10 to 16: 'no such element'", RefusedRuns::goneElement);
        sentence("Promise 3: 'SYNTAX .., LARGE or AMBIGUOUS, and the type stays. The draft is empty then'", RefusedRuns::model);
        sentence("Promises 4 and 15 to 20: what only asks", RefusedRuns::asking);
        end();
    }

    private static void okWhereNotBad() {
        Editor x = new Editor();
        due(0, x.insert(0, 0, 0));
        due(OK, x.model(0, "*a"));
        due(OK, x.simple(1, 0, 9));
        for (int v : new int[] {LEAST, -1, 3, GREATEST}) {
            due(OK, x.listed(1, v));
            due(OK, x.value(0, true, v));
            due(OK, x.value(0, false, v));
            due(OK, x.set(0, 0, true, v));
            due(OK, x.set(0, 3, false, v));
        }
        for (int n = 0; n <= 5; n++) {
            due(OK, x.rename(0, n));
            for (int t = -1; t <= 5; t++) {
                due(OK, x.element(n, t));
            }
        }
        for (int a = 0; a <= 3; a++) {
            for (int use = 0; use <= 2; use++) {
                for (int s = 0; s <= 5; s++) {
                    due(OK, x.attribute(0, a, use, s));
                }
            }
        }
    }

    private static void typeBeforeDraft() {
        String[] texts = {"", "a a", ",a", "33 33 33 33 a", "|aa", "*b"};
        int[] answers = {SYNTAX, SYNTAX, SYNTAX, LARGE, AMBIGUOUS, OK};
        for (int i = 0; i < texts.length; i++) {
            for (int t : outside(0, 5)) {
                Editor x = new Editor().draft(texts[i]);
                due(BAD, x.model(t));
                due(-1, x.place());
                due(answers[i], x.model(5));
                due(BAD, x.model(t));
                due(SYNTAX, x.model(0));
            }
        }
    }

    // ---- States

    /** Types 0 and 4 are COMPLEX, 1, 2 and 5 SIMPLE with 2, 4 and no ints listed, 3 is undefined; place is 4. */
    private static void schema(Editor x) {
        x.model(0, "*|a|b|c|df");
        x.model(4, ",?b*c");
        x.simple(1, 0, 9);
        x.listed(1, 3);
        x.listed(1, 5);
        x.simple(2, -2, 4);
        for (int v : new int[] {-2, 0, 3, 4}) {
            x.listed(2, v);
        }
        x.simple(5, LEAST, GREATEST);
        x.attribute(0, 0, 2, 1);
        x.attribute(0, 1, 1, 2);
        x.attribute(4, 3, 1, 5);
        x.element(0, 0);
        x.element(1, 1);
        x.element(2, 4);
        x.element(3, 3);
        x.element(5, 2);
        x.model(3, "|,b|aa|cc");
    }

    /** 0 has the children 1, 2, 3, 8; 2 has 4 and 5; 5 has 6. The number 7 is free again. */
    private static void schemaAndDocument(Editor x) {
        schema(x);
        x.insert(0, 0, 0);
        x.append(0, "bcd");
        x.append(2, "bc");
        x.append(5, "f");
        x.append(0, "af");
        x.remove(7);
        x.value(1, true, 3);
        x.value(6, true, 4);
        x.set(0, 0, true, 3);
        x.set(0, 1, true, 0);
        x.set(5, 3, true, GREATEST);
    }

    private static void fullDocument(Editor x) {
        schemaAndDocument(x);
        for (int i = 0; i < 16; i++) {
            x.insert(0, i / 2, i % 6);
        }
    }

    // ---- Probes: each makes visible a part of the state

    private static void look(Editor x) {
        x.place();
        for (int what = 0; what <= 2; what++) {
            x.check(what);
        }
        for (int e = 0; e <= 23; e++) {
            if (x.status(e) != BAD) {
                x.fitting(e);
                x.missing(e);
                x.may(e, 0);
                int k = 0;
                while (x.child(e, k) >= 0) {
                    k++;
                    x.may(e, k);
                }
            }
        }
    }

    private static void draftOn(Editor x) {
        x.token(0, 2);
        useDraft(x);
    }

    private static void useDraft(Editor x) {
        x.model(0);
        x.place();
        x.insert(0, 0, 0);
        x.element(0, 0);
        for (int n = 0; n <= 5; n++) {
            x.insert(0, 0, n);
            x.status(0);
            x.fitting(0);
            x.missing(0);
            x.may(0, 0);
            x.may(0, 1);
        }
    }

    private static void roomInDraft(Editor x) {
        x.model(5);
        x.draft(",b");
        x.model(6);
        for (int i = 0; i < 17; i++) {
            x.token(3, 0);
        }
        x.model(5);
        x.model(5);
    }

    private static void list(Editor x) {
        for (int t = 0; t <= 5; t++) {
            for (int v : new int[] {3, -2, 100, 101, 102, 103, 104}) {
                x.listed(t, v);
            }
        }
    }

    private static void valuesOfTypes(Editor x) {
        x.remove(0);
        x.insert(0, 0, 4);
        for (int t = 0; t <= 5; t++) {
            x.element(4, t);
            x.status(0);
            for (int v : SOME) {
                x.value(0, true, v);
                x.status(0);
            }
            x.value(0, false, 0);
        }
    }

    private static void attributesOfTypes(Editor x) {
        x.remove(0);
        x.insert(0, 0, 4);
        x.set(0, 0, true, 3);
        for (int t = 0; t <= 5; t++) {
            x.element(4, t);
            for (int a = 0; a <= 3; a++) {
                x.set(0, a, false, 0);
                x.status(0);
                for (int v : new int[] {-2, 0, 3, 5, 9}) {
                    x.set(0, a, true, v);
                    x.status(0);
                }
                x.set(0, a, a == 0, 3);
            }
        }
    }

    private static void wordsOfTypes(Editor x) {
        x.remove(0);
        x.insert(0, 0, 4);
        for (int t = 0; t <= 5; t++) {
            x.element(4, t);
            x.may(0, 0);
            for (int n = 0; n <= 5; n++) {
                x.insert(0, 0, n);
                x.fitting(0);
                x.missing(0);
                x.may(0, 0);
                x.may(0, 1);
                x.remove(1);
            }
        }
    }

    private static void typesOfNames(Editor x) {
        x.insert(0, 0, 0);
        x.set(0, 1, false, 0);
        x.value(0, false, 0);
        for (int n = 0; n <= 5; n++) {
            x.rename(0, n);
            x.status(0);
            x.fitting(0);
            x.missing(0);
            x.may(0, 0);
            x.check(0);
        }
    }

    private static void fill(Editor x) {
        while (x.insert(0, 0, 0) >= 0) {
            x.status(0);
        }
        for (int e = 0; e <= 23; e++) {
            x.child(0, e);
            x.status(e);
        }
        x.check(0);
        x.check(1);
        x.check(2);
    }

    private static void removeAll(Editor x) {
        for (int e = 23; e >= 0; e--) {
            x.move(e, 0, 0);
            x.remove(e);
            x.check(2);
        }
        x.insert(0, 0, 0);
        x.status(0);
    }

    /** Each element is a leaf when its turn comes, as its children have greater numbers and are gone by then. */
    private static void valuesOfElements(Editor x) {
        for (int n = 0; n <= 5; n++) {
            x.element(n, 5);
        }
        for (int e = 23; e >= 0; e--) {
            for (int v : new int[] {0, 3, 4, 7}) {
                x.simple(5, v, v);
                x.status(e);
            }
            x.remove(e);
        }
    }

    private static void attributesOfElements(Editor x) {
        x.model(3);
        x.model(3, "*|a|b|c|d|ef");
        x.simple(2, LEAST, GREATEST);
        for (int n = 0; n <= 5; n++) {
            x.element(n, 3);
        }
        for (int a = 0; a <= 3; a++) {
            x.attribute(3, a, 1, 2);
        }
        for (int e = 0; e <= 23; e++) {
            x.value(e, false, 0);
        }
        for (int a = 0; a <= 3; a++) {
            for (int v : new int[] {0, 3, 7, GREATEST}) {
                x.simple(5, v, v);
                x.attribute(3, a, 1, 5);
                x.check(0);
                for (int e = 0; e <= 8; e++) {
                    x.status(e);
                }
            }
            x.attribute(3, a, 1, 2);
        }
    }

    // ---- Comparing

    private static void leavesNoTrace(String state, Calls refused) {
        for (Map.Entry<String, Calls> probe : PROBES.entrySet()) {
            Editor touched = new Editor();
            Editor twin = new Editor();
            STATES.get(state).on(touched);
            STATES.get(state).on(twin);
            refused.on(touched);
            String last = latestCall;
            List<String> other = answers(probe.getValue(), twin);
            List<String> own = answers(probe.getValue(), touched);
            for (int i = 0; i < Math.min(own.size(), other.size()); i++) {
                if (!own.get(i).equals(other.get(i))) {
                    tell("on " + state + " " + last + " was refused, but then (" + probe.getKey() + ") " + own.get(i)
                        + ", without it " + other.get(i));
                    return;
                }
            }
        }
    }

    private static List<String> answers(Calls probe, Editor x) {
        int begin = x.calls();
        probe.on(x);
        return x.toldFrom(begin);
    }

    private static void leavesNoTrace(String state, List<Calls> refused) {
        for (Calls call : refused) {
            leavesNoTrace(state, call);
        }
    }

    // ---- Refused calls

    /** What is refused in every state, since an argument lies outside what it can ever be. */
    private static void always(String state) {
        List<Calls> refused = new ArrayList<>();
        sentence("Promise 2: 'kind is outside 0..8, the value of a NAME or TIMES not as said'", () -> {
            for (int kind : outside(0, 8)) {
                refused.add(x -> due(false, x.token(kind, 1)));
            }
            for (int n : outside(0, 5)) {
                refused.add(x -> due(false, x.token(0, n)));
            }
            for (int v : new int[] {-1, 0, 4, 8, 9, 12, 13, 14, 16, 17, LEAST, GREATEST}) {
                refused.add(x -> due(false, x.token(8, v)));
            }
            leavesNoTrace(state, refused);
        });
        refused.clear();
        sentence("Promises 3 and 5 to 8: 'BAD if t is outside'", () -> {
            for (int t : outside(0, 5)) {
                refused.add(x -> due(BAD, x.model(t)));
                refused.add(x -> due(BAD, x.simple(t, 1, 2)));
                refused.add(x -> due(BAD, x.listed(t, 9)));
                refused.add(x -> due(BAD, x.attribute(t, 0, 1, 2)));
                refused.add(x -> due(BAD, x.attribute(0, 0, 1, t)));
                refused.add(x -> due(BAD, x.element(t, 2)));
            }
            for (int t : outside(-1, 5)) {
                refused.add(x -> due(BAD, x.element(0, t)));
            }
            leavesNoTrace(state, refused);
        });
        refused.clear();
        sentence("Promise 7: 'or a, use or s is outside'", () -> {
            for (int a : outside(0, 3)) {
                refused.add(x -> due(BAD, x.attribute(0, a, 1, 2)));
                refused.add(x -> due(BAD, x.attribute(4, a, 2, 2)));
            }
            for (int use : outside(0, 2)) {
                refused.add(x -> due(BAD, x.attribute(0, 0, use, 2)));
                refused.add(x -> due(BAD, x.attribute(4, 3, use, 2)));
            }
            leavesNoTrace(state, refused);
        });
        refused.clear();
        sentence("Promises 9 and 12: 'n is outside'", () -> {
            for (int n : outside(0, 5)) {
                refused.add(x -> due(BAD, x.insert(0, 0, n)));
                refused.add(x -> due(BAD, x.insert(5, 1, n)));
                refused.add(x -> due(BAD, x.rename(0, n)));
            }
            leavesNoTrace(state, refused);
        });
        refused.clear();
        sentence("Promises 10 to 20: 'no such element', outside 0..23", () -> {
            for (int e : outside(0, 23)) {
                ofNoElement(e, refused);
            }
            for (int what : outside(0, 2)) {
                refused.add(x -> due(BAD, x.check(what)));
            }
            for (int a : outside(0, 3)) {
                refused.add(x -> due(BAD, x.set(0, a, true, 3)));
                refused.add(x -> due(BAD, x.set(1, a, false, 3)));
            }
            leavesNoTrace(state, refused);
        });
    }

    private static void ofNoElement(int e, List<Calls> refused) {
        refused.add(x -> due(BAD, x.remove(e)));
        refused.add(x -> due(BAD, x.move(e, 0, 0)));
        refused.add(x -> due(BAD, x.move(1, e, 0)));
        refused.add(x -> due(BAD, x.rename(e, 1)));
        refused.add(x -> due(BAD, x.value(e, true, 7)));
        refused.add(x -> due(BAD, x.value(e, false, 7)));
        refused.add(x -> due(BAD, x.set(e, 0, true, 7)));
        refused.add(x -> due(BAD, x.set(e, 1, false, 7)));
        refused.add(x -> due(BAD, x.status(e)));
        refused.add(x -> due(0, x.may(e, 0)));
        refused.add(x -> due(-1, x.fitting(e)));
        refused.add(x -> due(-1, x.missing(e)));
        refused.add(x -> due(-1, x.child(e, 0)));
    }

    private static void fullDraft() {
        List<Calls> refused = new ArrayList<>();
        for (int kind = 0; kind <= 8; kind++) {
            int another = kind;
            refused.add(x -> due(false, x.token(another, 1)));
        }
        leavesNoTrace("a full draft", refused);
    }

    private static void listed() {
        List<Calls> refused = new ArrayList<>();
        for (int t : new int[] {0, 3, 4}) {
            refused.add(x -> due(BAD, x.listed(t, 1)));
        }
        for (int v : new int[] {3, 5}) {
            refused.add(x -> due(BAD, x.listed(1, v)));
        }
        for (int v : new int[] {-2, 0, 3, 4, 1, LEAST, GREATEST}) {
            refused.add(x -> due(BAD, x.listed(2, v)));
        }
        leavesNoTrace("a schema alone", refused);
        leavesNoTrace("a schema and a document", refused);
    }

    private static void attribute() {
        List<Calls> refused = new ArrayList<>();
        for (int t : new int[] {1, 2, 3, 5}) {
            for (int use = 0; use <= 2; use++) {
                int some = use;
                refused.add(x -> due(BAD, x.attribute(t, some, some, 1)));
            }
        }
        leavesNoTrace("a schema alone", refused);
        leavesNoTrace("a schema and a document", refused);
        // Nor does it come to hold when the type becomes COMPLEX.
        for (Calls call : refused) {
            Editor x = new Editor();
            schemaAndDocument(x);
            call.on(x);
            for (int t : new int[] {1, 2, 3, 5}) {
                due(OK, x.model(t, "*a"));
                due(OK, x.element(4, t));
                due(OK, x.rename(8, 4));
                due(OK, x.status(8));
            }
        }
    }

    private static void insert() {
        List<Calls> refused = new ArrayList<>();
        for (int e : new int[] {-1, 7, 9, 23, 24, LEAST, GREATEST}) {
            refused.add(x -> due(BAD, x.insert(e, 0, 1)));
        }
        for (int k : outside(0, 4)) {
            refused.add(x -> due(BAD, x.insert(0, k, 1)));
        }
        for (int k : outside(0, 0)) {
            refused.add(x -> due(BAD, x.insert(8, k, 1)));
        }
        leavesNoTrace("a schema and a document", refused);
        leavesNoTrace("a schema, a document and a draft", refused);
    }

    private static void insertInFull() {
        List<Calls> refused = new ArrayList<>();
        for (int e = 0; e <= 23; e++) {
            int parent = e;
            refused.add(x -> due(BAD, x.insert(parent, 0, 1)));
        }
        refused.add(x -> due(BAD, x.insert(0, 20, 1)));
        leavesNoTrace("a full document", refused);
    }

    private static void move() {
        List<Calls> refused = new ArrayList<>();
        for (int e = 0; e <= 8; e++) {
            int moved = e;
            refused.add(x -> due(BAD, x.move(moved, moved, 0)));
            refused.add(x -> due(BAD, x.move(0, moved, 0)));
        }
        for (int p : new int[] {4, 5, 6}) {
            refused.add(x -> due(BAD, x.move(2, p, 0)));
        }
        refused.add(x -> due(BAD, x.move(5, 6, 0)));
        for (int k : outside(0, 3)) {
            refused.add(x -> due(BAD, x.move(2, 0, k)));
        }
        for (int k : outside(0, 2)) {
            refused.add(x -> due(BAD, x.move(8, 2, k)));
        }
        for (int k : outside(0, 0)) {
            refused.add(x -> due(BAD, x.move(2, 8, k)));
            refused.add(x -> due(BAD, x.move(6, 5, k)));
        }
        leavesNoTrace("a schema and a document", refused);
    }

    private static void goneElement() {
        List<Calls> refused = new ArrayList<>();
        for (int e : new int[] {7, 9, 23}) {
            ofNoElement(e, refused);
        }
        leavesNoTrace("a schema and a document", refused);
        refused.clear();
        for (int e : new int[] {0, 1, 23}) {
            ofNoElement(e, refused);
        }
        leavesNoTrace("a new object", refused);
        leavesNoTrace("a schema alone", refused);
    }

    /** The states have an empty draft, and their place is the one that the AMBIGUOUS model has too. */
    private static void model() {
        List<Calls> refused = new ArrayList<>();
        for (int type = 0; type <= 5; type++) {
            int t = type;
            refused.add(x -> due(SYNTAX, x.model(t)));
            refused.add(x -> due(SYNTAX, x.model(t, "*b *b")));
            refused.add(x -> due(SYNTAX, x.model(t, ",*b")));
            refused.add(x -> due(LARGE, x.model(t, "33 33 33 ,bc")));
            refused.add(x -> due(AMBIGUOUS, x.model(t, "|,b|aa|cc")));
        }
        leavesNoTrace("a schema alone", refused);
        leavesNoTrace("a schema and a document", refused);
        leavesNoTrace("a full document", refused);
    }

    private static void asking() {
        leavesNoTrace("a schema and a document", RefusedRuns::look);
        leavesNoTrace("a schema, a document and a draft", RefusedRuns::look);
        leavesNoTrace("a full document", x -> {
            x.place();
            x.check(0);
            x.check(1);
            x.check(2);
            for (int e = 0; e <= 23; e++) {
                x.status(e);
                x.fitting(e);
                x.missing(e);
                x.may(e, 0);
            }
        });
    }
}
