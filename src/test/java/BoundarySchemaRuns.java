/** The boundary cases that promises 1 to 8 name: one test for each sentence, on both sides. */
public final class BoundarySchemaRuns extends Runs {
    public static void main(String[] args) {
        sentence("Promise 1: 'No types'", BoundarySchemaRuns::noTypes);
        sentence("Promise 1: 'no names with a type'", BoundarySchemaRuns::noNamesWithType);
        sentence("Promise 1: 'no document'", BoundarySchemaRuns::noDocument);
        sentence("Promise 1: 'no tokens'", BoundarySchemaRuns::noTokens);
        sentence("Promise 2: 'kind is outside 0..8'", BoundarySchemaRuns::kindOutside);
        sentence("Promise 2: 'the value of a NAME .. not as said'", BoundarySchemaRuns::valueOfName);
        sentence("Promise 2: 'the value of a .. TIMES not as said'", BoundarySchemaRuns::valueOfTimes);
        sentence("Promise 2: 'the value of a NAME or TIMES', no other kind's", BoundarySchemaRuns::valueOfOthers);
        sentence("Promise 2: 'or there are 16'", BoundarySchemaRuns::sixteen);
        sentence("Promise 2: 'False, changing nothing'", BoundarySchemaRuns::falseChangesNothing);
        sentence("Promise 3: 'with the drafted model'", BoundarySchemaRuns::draftedModel);
        sentence("Promise 3: 'and all attributes absent'", BoundarySchemaRuns::allAttributesAbsent);
        sentence("Promise 3: 'SYNTAX (the tokens are not one expression)'", BoundarySchemaRuns::syntax);
        sentence("Promise 3: 'SYNTAX .., LARGE or AMBIGUOUS', the first that holds", BoundarySchemaRuns::orderOfRefusals);
        sentence("Promise 3: 'and the type stays', undefined", BoundarySchemaRuns::undefinedStays);
        sentence("Promise 3: 'and the type stays', SIMPLE", BoundarySchemaRuns::simpleStays);
        sentence("Promise 3: 'and the type stays', COMPLEX", BoundarySchemaRuns::complexStays);
        sentence("Promise 3: 'The draft is empty then'", BoundarySchemaRuns::draftIsEmpty);
        sentence("Promise 3: 'BAD, and the draft stays, if t is outside 0..5'", BoundarySchemaRuns::draftStays);
        sentence("Promise 4: '-1 if none was'", BoundarySchemaRuns::placeOfNone);
        sentence("Promise 4: 'Of the latest model that was AMBIGUOUS'", BoundarySchemaRuns::latestPlace);
        sentence("Promise 4: 'the least token'", BoundarySchemaRuns::leastToken);
        sentence("Promise 4: 'one of two such NAMES'", BoundarySchemaRuns::oneOfTwo);
        sentence("Promise 4: '(at whatever beginning)'", BoundarySchemaRuns::whateverBeginning);
        sentence("Promise 5: 'BAD if t is outside'", BoundarySchemaRuns::simpleOutside);
        sentence("Promise 5: 'with this least and greatest int'", BoundarySchemaRuns::newBounds);
        sentence("Promise 5: 'and nothing listed'", BoundarySchemaRuns::nothingListed);
        sentence("Promise 5: 'Least may be above greatest: no value is of it then'", BoundarySchemaRuns::leastAboveGreatest);
        sentence("Promise 6: 'BAD if t is no SIMPLE type'", BoundarySchemaRuns::listedInNoSimple);
        sentence("Promise 6: 'v is listed already'", BoundarySchemaRuns::listedAlready);
        sentence("Promise 6: 'or there are 4'", BoundarySchemaRuns::fourListed);
        sentence("Promise 7: 'absent (use 0), allowed (1) or required (2)'", BoundarySchemaRuns::uses);
        sentence("Promise 7: 'of type s (0..5, defined or not)'", BoundarySchemaRuns::typesOfAttributes);
        sentence("Promise 7: 'BAD if t is no COMPLEX type'", BoundarySchemaRuns::attributeOfNoComplex);
        sentence("Promise 7: 'or a, use or s is outside'", BoundarySchemaRuns::attributeOutside);
        sentence("Promise 8: 'Name n has type t (0..5; or none: -1)'", BoundarySchemaRuns::typesOfNames);
        sentence("Promise 8: 'BAD if n or t is outside'", BoundarySchemaRuns::elementOutside);
        end();
    }

    private static void noTypes() {
        for (int t = 0; t <= 5; t++) {
            Editor x = new Editor();
            due(BAD, x.listed(t, 0));
            due(BAD, x.attribute(t, 0, 0, 0));
            due(OK, x.element(0, t));
            due(0, x.insert(0, 0, 0));
            due(TYPELESS, x.status(0));
            due(0, x.may(0, 0));
            due(-1, x.fitting(0));
            due(-1, x.missing(0));
        }
    }

    private static void noNamesWithType() {
        Editor x = new Editor();
        due(0, x.insert(0, 0, 0));
        for (int t = 0; t <= 5; t++) {
            due(OK, x.model(t, "*a"));
        }
        for (int n = 0; n <= 5; n++) {
            due(OK, x.rename(0, n));
            due(TYPELESS, x.status(0));
            due(OK, x.element(n, n));
            due(OK, x.status(0));
        }
    }

    private static void noDocument() {
        Editor x = new Editor();
        due(0, x.check(0));
        due(-1, x.check(1));
        due(0, x.check(2));
        for (int e = -1; e <= 24; e++) {
            due(BAD, x.status(e));
            due(BAD, x.remove(e));
            due(BAD, x.move(e, 0, 0));
            due(BAD, x.rename(e, 0));
            due(BAD, x.value(e, true, 0));
            due(BAD, x.set(e, 0, true, 0));
            due(0, x.may(e, 0));
            due(-1, x.fitting(e));
            due(-1, x.missing(e));
            due(-1, x.child(e, 0));
        }
        due(0, x.check(2));
        due(0, x.insert(0, 0, 0));
        due(1, x.check(2));
    }

    private static void noTokens() {
        due(SYNTAX, new Editor().model(0));
        due(-1, new Editor().place());
        due(OK, new Editor().model(0, "a"));
        due(OK, new Editor().model(0, "???????????????a"));
    }

    private static void kindOutside() {
        for (int kind = 0; kind <= 8; kind++) {
            due(true, new Editor().token(kind, 5));
        }
        for (int kind : outside(0, 8)) {
            for (int v : new int[] {0, 1, 5}) {
                due(false, new Editor().token(kind, v));
            }
        }
    }

    private static void valueOfName() {
        for (int n = 0; n <= 5; n++) {
            due(true, new Editor().token(0, n));
        }
        for (int n : outside(0, 5)) {
            due(false, new Editor().token(0, n));
        }
    }

    /** Each min with each max: those that are taken, and those around them that are not. */
    private static void valueOfTimes() {
        for (int min = -2; min <= 5; min++) {
            for (int max = 0; max <= 3; max++) {
                boolean good = min >= 0 && min <= 3 && max >= 1 && min <= max;
                due(good, new Editor().token(8, 4 * min + max));
            }
        }
        for (int v : outside(1, 15)) {
            due(false, new Editor().token(8, v));
        }
    }

    private static void valueOfOthers() {
        for (int kind = 1; kind <= 7; kind++) {
            for (int v : new int[] {LEAST, -1, 0, 6, 16, GREATEST}) {
                due(true, new Editor().token(kind, v));
            }
        }
        // The value doesn't change what the token means either.
        Editor x = new Editor();
        due(true, x.token(1, GREATEST));
        due(true, x.token(0, 1));
        due(true, x.token(4, LEAST));
        due(true, x.token(6, 3));
        due(OK, x.model(0));
        due(OK, x.element(0, 0));
        due(0, x.insert(0, 0, 0));
        due(2, x.may(0, 0));
        due(1, x.missing(0));
    }

    private static void sixteen() {
        for (int kind = 0; kind <= 8; kind++) {
            Editor x = new Editor();
            for (int i = 0; i < 16; i++) {
                due(true, x.token(kind, 5));
            }
            for (int another = 0; another <= 8; another++) {
                due(false, x.token(another, 5));
            }
        }
        // Each model has room for sixteen again.
        Editor x = new Editor();
        for (int round = 0; round < 3; round++) {
            x.draft("???????????????a");
            due(false, x.token(0, 0));
            due(false, x.token(6, 0));
            due(OK, x.model(0));
        }
    }

    private static void falseChangesNothing() {
        Editor x = new Editor().draft(",b");
        due(false, x.token(9, 0));
        due(false, x.token(-1, 0));
        due(false, x.token(0, 6));
        due(false, x.token(0, -1));
        due(false, x.token(8, 0));
        due(false, x.token(8, 16));
        due(OK, x.model(0, "c"));
        due(OK, x.element(0, 0));
        due(0, x.insert(0, 0, 0));
        x.append(0, "bc");
        due(OK, x.status(0));
        // Where there are sixteen, the last of them is not changed by what is refused.
        Editor y = new Editor().draft("???????????????b");
        due(false, y.token(0, 2));
        due(false, y.token(3, 0));
        due(OK, y.model(0));
        due(OK, y.element(0, 0));
        due(0, y.insert(0, 0, 0));
        due(2, y.may(0, 0));
    }

    private static void draftedModel() {
        // The least model, and one of sixteen tokens.
        Editor x = rooted("f", "");
        due(1 << 5, x.may(0, 0));
        words("??,a,b,c,d,e,f?a", "- abcdef abcdefa");
        noWords("??,a,b,c,d,e,f?a", "a abcde abcdefaa");
        // The latest model alone holds, and each type has its own.
        due(OK, x.model(0, "e"));
        due(OK, x.model(1, "d"));
        due(OK, x.model(5, "c"));
        due(1 << 4, x.may(0, 0));
        due(OK, x.element(0, 1));
        due(1 << 3, x.may(0, 0));
        due(OK, x.element(0, 5));
        due(1 << 2, x.may(0, 0));
        // Nothing of a longer model before, whether it was taken or not, comes back in a shorter one.
        for (String before : new String[] {"*|a|b|cd", "+,b?b", "33 33 33 b", "&b&c*d"}) {
            Editor y = rooted("c", "bb");
            due(before.equals("+,b?b") ? AMBIGUOUS : OK, y.model(0, before));
            due(OK, y.model(0, "b"));
            due(1, y.fitting(0));
            due(CONTENT, y.status(0));
            due(1, y.remove(2));
            due(OK, y.status(0));
            due(0, y.may(0, 1));
        }
    }

    private static void allAttributesAbsent() {
        Editor x = rooted("*b", "");
        due(OK, x.simple(1, 0, 9));
        for (int a = 0; a <= 3; a++) {
            due(OK, x.attribute(0, a, 2, 1));
        }
        due(ATTRIBUTE, x.status(0));
        due(OK, x.model(0, "*b"));
        due(OK, x.status(0));
        for (int a = 0; a <= 3; a++) {
            due(OK, x.set(0, a, true, 5));
            due(ATTRIBUTE, x.status(0));
            due(OK, x.set(0, a, false, 5));
            due(OK, x.status(0));
        }
        // Also where the type was SIMPLE in between, and for no other type.
        due(OK, x.attribute(0, 0, 2, 1));
        due(OK, x.simple(0, 0, 9));
        due(OK, x.model(0, "*b"));
        due(OK, x.status(0));
        due(OK, x.attribute(0, 3, 2, 1));
        due(OK, x.model(2, "*b"));
        due(ATTRIBUTE, x.status(0));
    }

    private static void syntax() {
        String[] none = {
            "", "ab", "a.", "..", ",", ",a", ",,ab", ",abc", "|", "|a", "|abc", "&", "&a", "&abc", "?", "?ab", "*", "*ab", "+", "+ab",
            "12", "12ab", "a?", "a*", "a12", "a,bc", ",a?", ",?a", "?,a", "????????????????", ",a,a,a,a,a,a,a,a",
            "aaaaaaaaaaaaaaaa", "&&&&&&&&abcdefab",
        };
        for (String text : none) {
            due(SYNTAX, new Editor().model(0, text));
        }
        String[] one = {
            "a", ".", ",ab", ",,abc", ",a,bc", "|ab", "|a|bc", "&ab", "?a", "*a", "+a", "12a", ",?ab", ",a?b", "?,ab", "???????????????a",
            "?,a,a,a,a,a,a,aa", "???????????????.",
        };
        for (String text : one) {
            due(OK, new Editor().model(0, text));
        }
    }

    private static void orderOfRefusals() {
        // No expression, though its beginning is LARGE and AMBIGUOUS.
        due(SYNTAX, new Editor().model(0, "33 33 33 33 |aa a"));
        due(SYNTAX, new Editor().model(0, "|aa a"));
        due(SYNTAX, new Editor().model(0, ", 33 33 33 33 a"));
        due(LARGE, new Editor().model(0, "33 33 33 33 |aa"));
        due(LARGE, new Editor().model(0, "33 33 33 |aa"));
        due(AMBIGUOUS, new Editor().model(0, "33 33 |aa"));
        due(AMBIGUOUS, new Editor().model(0, ", 33 33 33 b |a|aa"));
        due(LARGE, new Editor().model(0, ", 33 33 33 b |a|a|aa"));
    }

    private static final String[] REFUSED = {"", "a a", "33 33 33 33 a", "|aa"};
    private static final int[] ANSWERS = {SYNTAX, SYNTAX, LARGE, AMBIGUOUS};

    private static void undefinedStays() {
        for (int i = 0; i < REFUSED.length; i++) {
            Editor x = new Editor();
            due(OK, x.element(0, 0));
            due(0, x.insert(0, 0, 0));
            due(ANSWERS[i], x.model(0, REFUSED[i]));
            due(TYPELESS, x.status(0));
            due(-1, x.fitting(0));
            due(0, x.may(0, 0));
            due(BAD, x.attribute(0, 0, 0, 0));
            due(BAD, x.listed(0, 0));
        }
    }

    private static void simpleStays() {
        for (int i = 0; i < REFUSED.length; i++) {
            Editor x = new Editor();
            due(OK, x.element(0, 0));
            due(0, x.insert(0, 0, 0));
            due(OK, x.simple(0, 3, 7));
            due(OK, x.listed(0, 3));
            due(OK, x.listed(0, 7));
            due(ANSWERS[i], x.model(0, REFUSED[i]));
            for (int v = 2; v <= 8; v++) {
                due(OK, x.value(0, true, v));
                due(v == 3 || v == 7 ? OK : VALUE, x.status(0));
            }
            due(BAD, x.listed(0, 7));
            due(OK, x.listed(0, 4) + x.listed(0, 5));
            due(BAD, x.listed(0, 6));
            due(BAD, x.attribute(0, 0, 0, 0));
        }
    }

    private static void complexStays() {
        for (int i = 0; i < REFUSED.length; i++) {
            Editor x = rooted(",b?c", "b");
            due(OK, x.simple(1, 0, 9));
            for (int a = 0; a <= 3; a++) {
                due(OK, x.attribute(0, a, 2, 1));
            }
            due(ANSWERS[i], x.model(0, REFUSED[i]));
            for (int a = 0; a <= 3; a++) {
                due(ATTRIBUTE, x.status(0));
                due(OK, x.set(0, a, true, 9));
            }
            due(OK, x.status(0));
            due(0, x.missing(0));
            due(1, x.fitting(0));
            due(0, x.may(0, 0));
            due(4, x.may(0, 1));
            due(BAD, x.listed(0, 0));
            due(1, x.remove(1));
            due(CONTENT, x.status(0));
            due(2, x.may(0, 0));
        }
    }

    private static void draftIsEmpty() {
        String[] texts = {"*b", "", "a a", "33 33 33 33 a", "|aa", ",a", "???????????????b"};
        int[] answers = {OK, SYNTAX, SYNTAX, LARGE, AMBIGUOUS, SYNTAX, OK};
        for (int i = 0; i < texts.length; i++) {
            Editor x = new Editor();
            due(answers[i], x.model(1, texts[i]));
            due(SYNTAX, x.model(1));
            // Room for all sixteen, and nothing stands before them.
            due(answers[i], x.model(1, texts[i]));
            due(OK, x.model(0, "???????????????c"));
            due(OK, x.element(0, 0));
            due(0, x.insert(0, 0, 0));
            due(4, x.may(0, 0));
        }
    }

    private static void draftStays() {
        for (int t = 0; t <= 5; t++) {
            due(OK, new Editor().model(t, "a"));
        }
        for (int t : outside(0, 5)) {
            Editor x = new Editor().draft(",b");
            due(BAD, x.model(t));
            due(BAD, x.model(t));
            due(OK, x.model(0, "c"));
            due(OK, x.element(0, 0));
            due(0, x.insert(0, 0, 0));
            due(2, x.missing(0));
            x.append(0, "bc");
            due(OK, x.status(0));
            // An empty draft stays empty, a full one full.
            due(BAD, x.model(t));
            due(SYNTAX, x.model(0));
            x.draft("???????????????d");
            due(BAD, x.model(t));
            due(false, x.token(0, 0));
            due(OK, x.model(0));
        }
    }

    private static void placeOfNone() {
        Editor x = new Editor();
        due(-1, x.place());
        due(SYNTAX, x.model(0, "|aaa"));
        due(-1, x.place());
        due(LARGE, x.model(0, "33 33 33 33 |aa"));
        due(-1, x.place());
        due(OK, x.model(0, "|ab"));
        due(-1, x.place());
        x.draft("|aa");
        due(-1, x.place());
        due(BAD, x.model(6));
        due(-1, x.place());
        due(AMBIGUOUS, x.model(0));
        due(1, x.place());
    }

    private static void latestPlace() {
        Editor x = new Editor();
        due(AMBIGUOUS, x.model(0, ",b|aa"));
        due(3, x.place());
        due(3, x.place());
        due(OK, x.model(0, "|ab"));
        due(3, x.place());
        due(SYNTAX, x.model(0, "|aaa"));
        due(3, x.place());
        due(LARGE, x.model(0, "33 33 33 33 |aa"));
        due(3, x.place());
        x.draft("|aa");
        due(BAD, x.model(-1));
        due(3, x.place());
        due(AMBIGUOUS, x.model(5));
        due(1, x.place());
        due(AMBIGUOUS, x.model(0, ",b,c|aa"));
        due(5, x.place());
        due(OK, x.simple(0, 0, 9));
        due(5, x.place());
    }

    private static void place(String model, int place) {
        Editor x = new Editor();
        due(AMBIGUOUS, x.model(0, model));
        int got = x.place();
        latestCall += " of " + model;
        due(place, got);
    }

    private static void leastToken() {
        place("|aa", 1);
        place("||baa", 3);
        place("?????????????|aa", 14);
        place("|a|b|c|d|ea", 1);
        place("|b|c|aa", 5);
        place("|b|ab", 1);
        place(",b,b,b,b,b,b|aa", 13);
    }

    private static void oneOfTwo() {
        // The a's before are never in doubt; nor is the least NAME of the model, if no other can come in its stead.
        place(",a|bb", 3);
        place(",a,a,?aa", 6);
        place(",a,?b,a|cc", 8);
        place("|,ab,c|dd", 7);
        place("&,ab,ac", 2);
        place("*,?a,b?a", 3);
        place(",22,?b+ab", 4);
    }

    private static void whateverBeginning() {
        // In doubt at the empty row, behind one name, behind many, and behind a name that is in doubt itself.
        place("|aa", 1);
        place(",b|aa", 3);
        place(", 33 33 33 b |aa", 6);
        place("|,b|aa|cc", 4);
        place("|,b,d|aa|cc", 6);
        place("*,?a|c,ca", 3);
    }

    private static void simpleOutside() {
        for (int t = 0; t <= 5; t++) {
            due(OK, new Editor().simple(t, 0, 9));
        }
        for (int t : outside(0, 5)) {
            Editor x = new Editor();
            due(BAD, x.simple(t, 0, 9));
            for (int type = 0; type <= 5; type++) {
                due(BAD, x.listed(type, 0));
            }
            // Nor does it touch a type that is there.
            for (int type = 0; type <= 5; type++) {
                due(OK, x.simple(type, 0, 9));
                due(OK, x.listed(type, 5));
            }
            due(BAD, x.simple(t, 1, 4));
            due(0, x.insert(0, 0, 0));
            for (int type = 0; type <= 5; type++) {
                due(BAD, x.listed(type, 5));
                due(OK, x.element(0, type));
                dueValue(x, 5, OK);
                dueValue(x, 4, VALUE);
            }
        }
    }

    private static Editor simpleRoot(int least, int greatest) {
        Editor x = new Editor();
        due(OK, x.element(0, 0));
        due(0, x.insert(0, 0, 0));
        due(OK, x.simple(0, least, greatest));
        return x;
    }

    private static void dueValue(Editor x, int v, int status) {
        due(OK, x.value(0, true, v));
        due(status, x.status(0));
    }

    private static void newBounds() {
        Editor x = simpleRoot(0, 9);
        dueValue(x, 0, OK);
        dueValue(x, 9, OK);
        due(OK, x.simple(0, 1, 8));
        dueValue(x, 0, VALUE);
        dueValue(x, 1, OK);
        dueValue(x, 8, OK);
        dueValue(x, 9, VALUE);
        due(OK, x.simple(0, LEAST, GREATEST));
        dueValue(x, LEAST, OK);
        dueValue(x, GREATEST, OK);
    }

    private static void nothingListed() {
        Editor x = simpleRoot(0, 9);
        for (int v = 1; v <= 4; v++) {
            due(OK, x.listed(0, v));
        }
        dueValue(x, 5, VALUE);
        due(OK, x.simple(0, 0, 9));
        dueValue(x, 5, OK);
        for (int v = 4; v >= 1; v--) {
            due(OK, x.listed(0, v));
        }
        due(BAD, x.listed(0, 5));
        dueValue(x, 5, VALUE);
        // Nor is anything listed after the type was COMPLEX in between.
        due(OK, x.model(0, "*a"));
        due(OK, x.simple(0, 0, 9));
        dueValue(x, 5, OK);
        due(OK, x.listed(0, 5));
    }

    private static void leastAboveGreatest() {
        int[][] pairs = {{5, 4}, {5, 1}, {1, -1}, {GREATEST, LEAST}, {0, LEAST}, {GREATEST, 0}};
        for (int[] pair : pairs) {
            Editor x = simpleRoot(pair[0], pair[1]);
            due(VALUE, x.status(0));
            for (int v : new int[] {pair[0], pair[1], pair[0] - 1, pair[1] + 1, 0, 3, LEAST, GREATEST}) {
                dueValue(x, v, VALUE);
            }
            due(OK, x.listed(0, pair[0]));
            due(OK, x.listed(0, pair[1]));
            dueValue(x, pair[0], VALUE);
            dueValue(x, pair[1], VALUE);
        }
        // One step less, and one value is of it.
        dueValue(simpleRoot(5, 5), 5, OK);
    }

    private static void listedInNoSimple() {
        for (int t : outside(0, 5)) {
            due(BAD, new Editor().listed(t, 0));
        }
        for (int t = 0; t <= 5; t++) {
            Editor x = new Editor();
            due(BAD, x.listed(t, 0));
            due(OK, x.simple(t, 0, 9));
            due(OK, x.listed(t, 0));
            due(OK, x.model(t, "*a"));
            due(BAD, x.listed(t, 1));
            due(OK, x.simple(t, 0, 9));
            due(OK, x.listed(t, 1));
        }
    }

    private static void listedAlready() {
        Editor x = simpleRoot(0, 9);
        for (int v : new int[] {0, LEAST, GREATEST, -1}) {
            due(OK, x.listed(0, v));
            due(BAD, x.listed(0, v));
        }
        Editor y = simpleRoot(0, 9);
        due(OK, y.listed(0, 3));
        due(BAD, y.listed(0, 3));
        due(BAD, y.listed(0, 3));
        due(BAD, y.listed(0, 3));
        // The refused ones took no room.
        due(OK, y.listed(0, 4));
        due(OK, y.listed(0, 5));
        due(OK, y.listed(0, 6));
        due(BAD, y.listed(0, 7));
        // What one type lists is not listed in another.
        due(OK, y.simple(1, 0, 9));
        due(OK, y.listed(1, 3));
    }

    private static void fourListed() {
        for (int t = 0; t <= 5; t++) {
            Editor x = new Editor();
            due(OK, x.simple(t, 0, 9));
            for (int v = 0; v < 4; v++) {
                due(OK, x.listed(t, v));
            }
            for (int v : new int[] {4, 5, -1, LEAST, GREATEST, 0, 3}) {
                due(BAD, x.listed(t, v));
            }
            due(OK, x.element(0, t));
            due(0, x.insert(0, 0, 0));
            for (int v = -1; v <= 5; v++) {
                dueValue(x, v, v >= 0 && v <= 3 ? OK : VALUE);
            }
        }
        // Four in each type at once.
        Editor y = new Editor();
        for (int t = 0; t <= 5; t++) {
            due(OK, y.simple(t, 0, 99));
        }
        for (int v = 0; v < 5; v++) {
            for (int t = 0; t <= 5; t++) {
                due(v < 4 ? OK : BAD, y.listed(t, 10 * t + v));
            }
        }
        due(0, y.insert(0, 0, 0));
        for (int t = 0; t <= 5; t++) {
            due(OK, y.element(0, t));
            dueValue(y, 10 * t, OK);
            dueValue(y, 10 * t + 3, OK);
            dueValue(y, 10 * t + 4, VALUE);
        }
    }

    private static void uses() {
        for (int a = 0; a <= 3; a++) {
            Editor x = rooted("*b", "");
            due(OK, x.simple(1, 0, 9));
            int[] without = {OK, OK, ATTRIBUTE};
            int[] with = {ATTRIBUTE, OK, OK};
            for (int use : new int[] {0, 1, 2, 1, 0, 2, 0}) {
                due(OK, x.attribute(0, a, use, 1));
                due(without[use], x.status(0));
                due(OK, x.set(0, a, true, 9));
                due(with[use], x.status(0));
                due(OK, x.set(0, a, false, 9));
            }
        }
        for (int use : outside(0, 2)) {
            Editor x = rooted("*b", "");
            due(BAD, x.attribute(0, 0, use, 0));
            due(OK, x.status(0));
        }
    }

    private static void typesOfAttributes() {
        for (int s = 0; s <= 5; s++) {
            Editor x = new Editor();
            int t = s == 0 ? 1 : 0;
            due(OK, x.model(t, "*b"));
            due(OK, x.element(0, t));
            due(0, x.insert(0, 0, 0));
            due(OK, x.attribute(t, 0, 1, s));
            due(OK, x.status(0));
            due(OK, x.set(0, 0, true, 7));
            due(ATTRIBUTE, x.status(0));
            due(OK, x.simple(s, 7, 7));
            due(OK, x.status(0));
            due(OK, x.set(0, 0, true, 8));
            due(ATTRIBUTE, x.status(0));
        }
        for (int s : outside(0, 5)) {
            for (int use = 0; use <= 2; use++) {
                due(BAD, rooted("*b", "").attribute(0, 0, use, s));
            }
        }
        // A type may be that of its own attribute, though no value is of it.
        Editor x = rooted("*b", "");
        due(OK, x.attribute(0, 3, 1, 0));
        due(OK, x.set(0, 3, true, 0));
        due(ATTRIBUTE, x.status(0));
    }

    private static void attributeOfNoComplex() {
        for (int t : outside(0, 5)) {
            due(BAD, rooted("*b", "").attribute(t, 0, 1, 0));
        }
        for (int t = 0; t <= 5; t++) {
            Editor x = new Editor();
            due(BAD, x.attribute(t, 0, 1, 0));
            due(OK, x.simple(t, 0, 9));
            due(BAD, x.attribute(t, 0, 1, 0));
            due(OK, x.model(t, "*b"));
            due(OK, x.attribute(t, 0, 1, 0));
            due(OK, x.simple(t, 0, 9));
            due(BAD, x.attribute(t, 0, 1, 0));
        }
        // What was refused while the type was SIMPLE does not hold once it is COMPLEX.
        Editor x = new Editor();
        due(OK, x.simple(0, 0, 9));
        due(BAD, x.attribute(0, 0, 2, 1));
        due(OK, x.model(0, "*b"));
        due(OK, x.element(0, 0));
        due(0, x.insert(0, 0, 0));
        due(OK, x.status(0));
    }

    private static void attributeOutside() {
        Editor x = rooted("*b", "");
        due(OK, x.simple(1, 0, 9));
        due(OK, x.attribute(0, 0, 2, 1));
        due(OK, x.attribute(0, 3, 2, 1));
        due(OK, x.set(0, 0, true, 0));
        due(OK, x.set(0, 3, true, 9));
        for (int a : outside(0, 3)) {
            due(BAD, x.attribute(0, a, 0, 1));
        }
        for (int use : outside(0, 2)) {
            due(BAD, x.attribute(0, 0, use, 5));
        }
        for (int s : outside(0, 5)) {
            due(BAD, x.attribute(0, 3, 0, s));
        }
        due(OK, x.status(0));
        due(OK, x.set(0, 0, false, 0));
        due(ATTRIBUTE, x.status(0));
        due(OK, x.set(0, 0, true, 9));
        due(OK, x.status(0));
        due(OK, x.set(0, 3, false, 0));
        due(ATTRIBUTE, x.status(0));
    }

    private static void typesOfNames() {
        for (int n = 0; n <= 5; n++) {
            Editor x = new Editor();
            due(OK, x.model(0, "*a"));
            due(OK, x.simple(5, 0, 9));
            due(0, x.insert(0, 0, n));
            due(OK, x.element(n, 0));
            due(OK, x.status(0));
            due(OK, x.element(n, 5));
            due(VALUE, x.status(0));
            due(OK, x.element(n, 3));
            due(TYPELESS, x.status(0));
            due(OK, x.element(n, 0));
            due(OK, x.status(0));
            due(OK, x.element(n, -1));
            due(TYPELESS, x.status(0));
            due(OK, x.element(n, -1));
            due(TYPELESS, x.status(0));
            due(OK, x.rename(0, n == 5 ? 0 : n + 1));
            due(TYPELESS, x.status(0));
        }
    }

    private static void elementOutside() {
        Editor x = new Editor();
        due(OK, x.model(0, "*a"));
        due(OK, x.model(5, "*a"));
        due(0, x.insert(0, 0, 0));
        for (int n : outside(0, 5)) {
            for (int t : new int[] {-1, 0, 5}) {
                due(BAD, x.element(n, t));
            }
        }
        for (int t : outside(-1, 5)) {
            due(BAD, x.element(0, t));
            due(TYPELESS, x.status(0));
        }
        due(OK, x.element(0, 5));
        for (int t : outside(-1, 5)) {
            due(BAD, x.element(0, t));
            due(OK, x.status(0));
        }
        due(BAD, x.element(6, 6));
        due(BAD, x.element(-1, -2));
    }
}
