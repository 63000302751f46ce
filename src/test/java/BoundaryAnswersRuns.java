/** The boundary cases that promises 15 to 20, those that ask, name: one test for each sentence, on both sides. */
public final class BoundaryAnswersRuns extends Runs {
    public static void main(String[] args) {
        sentence("Promise 15: 'OK, TYPELESS, CONTENT, VALUE or ATTRIBUTE'", BoundaryAnswersRuns::eachStatus);
        sentence("Promise 15: 'BAD if there is no such element'", BoundaryAnswersRuns::statusOfNone);
        sentence("Promise 16: 'How many elements are not OK (what 0)'", BoundaryAnswersRuns::howManyWrong);
        sentence("Promise 16: 'the first of them in the order of the document, parents before children'", BoundaryAnswersRuns::firstWrong);
        sentence("Promise 16: '-1 if there is none'", BoundaryAnswersRuns::noneWrong);
        sentence("Promise 16: 'how many elements there are (what 2)'", BoundaryAnswersRuns::howMany);
        sentence("Promise 16: 'BAD for any other'", BoundaryAnswersRuns::checkOther);
        sentence("Promise 17: 'the names that can be put in as child k'", BoundaryAnswersRuns::namesToPutIn);
        sentence("Promise 17: '(bit n for name n)'", BoundaryAnswersRuns::bits);
        sentence("Promise 17: '0 if there is no such element'", BoundaryAnswersRuns::mayOfNone);
        sentence("Promise 17: 'k is outside 0 .. the number of its children'", BoundaryAnswersRuns::mayOutside);
        sentence("Promise 17: 'or its type is not COMPLEX'", BoundaryAnswersRuns::mayOfNoComplex);
        sentence("Promise 17: 'can be put in', while there are 24", BoundaryAnswersRuns::mayInFull);
        sentence("Promise 18: 'the number of children at the beginning that some word begins with, at most'", BoundaryAnswersRuns::fitting);
        sentence("Promise 18: '-1 if there is no such element'", BoundaryAnswersRuns::fittingOfNone);
        sentence("Promise 18: '-1 if .. its type is not COMPLEX'", BoundaryAnswersRuns::fittingOfNoComplex);
        sentence("Promise 19: 'the least number of children that must be added'", BoundaryAnswersRuns::missing);
        sentence("Promise 19: '-1 if nothing helps'", BoundaryAnswersRuns::nothingHelps);
        sentence("Promise 19: '-1 if .. there is no such element'", BoundaryAnswersRuns::missingOfNone);
        sentence("Promise 19: '-1 if .. its type is not COMPLEX'", BoundaryAnswersRuns::missingOfNoComplex);
        sentence("Promise 20: 'Child k of element e'", BoundaryAnswersRuns::childOf);
        sentence("Promise 20: '-1 if there is none'", BoundaryAnswersRuns::noChild);
        end();
    }

    private static void eachStatus() {
        Editor x = new Editor();
        due(0, x.insert(0, 0, 0));
        due(TYPELESS, x.status(0));
        due(OK, x.model(0, "+a"));
        due(OK, x.element(0, 0));
        due(CONTENT, x.status(0));
        due(OK, x.model(0, "*a"));
        due(OK, x.status(0));
        due(OK, x.value(0, true, 0));
        due(VALUE, x.status(0));
        due(OK, x.value(0, false, 0));
        due(OK, x.set(0, 0, true, 0));
        due(ATTRIBUTE, x.status(0));
        due(OK, x.set(0, 0, false, 0));
        due(OK, x.status(0));
    }

    private static void statusOfNone() {
        due(BAD, new Editor().status(0));
        Editor x = rooted("*a", "a");
        due(OK, x.status(0));
        due(OK, x.status(1));
        for (int e : outside(0, 1)) {
            due(BAD, x.status(e));
        }
        for (int e : outside(0, 23)) {
            due(BAD, x.status(e));
        }
        due(1, x.remove(1));
        due(BAD, x.status(1));
        due(1, x.remove(0));
        due(BAD, x.status(0));
    }

    private static void howManyWrong() {
        due(0, new Editor().check(0));
        Editor x = full();
        due(24, x.check(0));
        due(OK, x.model(0, "*|a|b|c|d|ef"));
        for (int n = 0; n <= 5; n++) {
            due(24 - 4 * n, x.check(0));
            due(OK, x.element(n, 0));
        }
        due(0, x.check(0));
        for (int e = 0; e <= 23; e++) {
            due(OK, x.value(e, true, 0));
            due(e + 1, x.check(0));
        }
        due(1, x.remove(23));
        due(23, x.check(0));
        due(23, x.remove(0));
        due(0, x.check(0));
    }

    private static void firstWrong() {
        // 0 has the children 3, 1; 3 has 5, 4; 1 has 2. All are wrong at first, then one after the other is mended.
        Editor x = new Editor();
        due(0, x.insert(0, 0, 0));
        due(1, x.insert(0, 0, 0));
        due(2, x.insert(1, 0, 0));
        due(3, x.insert(0, 0, 0));
        due(4, x.insert(3, 0, 0));
        due(5, x.insert(3, 0, 0));
        due(OK, x.model(0, "*a"));
        due(OK, x.element(0, 0));
        for (int e = 0; e <= 5; e++) {
            due(OK, x.value(e, true, 0));
        }
        for (int e : new int[] {0, 3, 5, 4, 1, 2}) {
            due(e, x.check(1));
            due(OK, x.value(e, false, 0));
        }
        due(-1, x.check(1));
        // The last in the order alone, in a flat document and in a deep one.
        Editor flat = full();
        due(OK, flat.model(0, "*|a|b|c|d|ef"));
        for (int n = 0; n <= 5; n++) {
            due(OK, flat.element(n, 0));
        }
        due(OK, flat.value(1, true, 0));
        due(1, flat.check(1));
        due(OK, flat.value(23, true, 0));
        due(23, flat.check(1));
        due(OK, flat.value(0, true, 0));
        due(0, flat.check(1));
        Editor deep = deep();
        due(OK, deep.model(0, "?a"));
        due(OK, deep.element(0, 0));
        due(-1, deep.check(1));
        due(OK, deep.value(23, true, 0));
        due(23, deep.check(1));
        due(OK, deep.value(22, true, 0));
        due(22, deep.check(1));
    }

    private static void noneWrong() {
        due(-1, new Editor().check(1));
        Editor x = rooted("*a", "aaa");
        due(-1, x.check(1));
        due(OK, x.value(0, true, 0));
        due(0, x.check(1));
        due(OK, x.value(0, false, 0));
        due(-1, x.check(1));
        due(OK, x.value(3, true, 0));
        due(3, x.check(1));
        due(4, x.remove(0));
        due(-1, x.check(1));
    }

    private static void howMany() {
        Editor x = new Editor();
        due(0, x.check(2));
        for (int e = 0; e <= 23; e++) {
            due(e, x.insert(0, 0, 0));
            due(e + 1, x.check(2));
        }
        due(BAD, x.insert(0, 0, 0));
        due(24, x.check(2));
        due(OK, x.move(23, 1, 0));
        due(24, x.check(2));
        due(2, x.remove(1));
        due(22, x.check(2));
        due(22, x.remove(0));
        due(0, x.check(2));
    }

    private static void checkOther() {
        Editor x = new Editor();
        for (int what : outside(0, 2)) {
            due(BAD, x.check(what));
        }
        x = full();
        for (int what : outside(0, 2)) {
            due(BAD, x.check(what));
        }
        due(24, x.check(0));
        due(0, x.check(1));
        due(24, x.check(2));
    }

    private static void may(String model, String row, int... sets) {
        Editor x = rooted(model, row);
        for (int k = -1; k <= row.length() + 1; k++) {
            int got = x.may(0, k);
            latestCall += " of " + row + " in " + model;
            due(k < 0 || k > row.length() ? 0 : sets[k], got);
        }
    }

    private static void namesToPutIn() {
        may(",bc", "", 0);
        may(",bc", "b", 0, 4);
        may(",bc", "c", 2, 0);
        may(",bc", "bc", 0, 0, 0);
        may(",bc", "d", 0, 0);
        may("*b", "", 2);
        may("*b", "bb", 2, 2, 2);
        may("*b", "c", 0, 0);
        may("+b", "", 2);
        may("?b", "", 2);
        may("?b", "b", 0, 0);
        may(".", "", 0);
        may(".", "b", 0, 0);
        may("33b", "b", 0, 0);
        may("33b", "bb", 2, 2, 2);
        may("33b", "bbb", 0, 0, 0, 0);
        may("&bc", "c", 2, 2);
        may("&b,cd", "bd", 0, 4, 0);
        may("&b,cd", "cd", 2, 0, 2);
        may(",b,?c*d", "bdd", 0, 12, 8, 8);
        // A row that is a word already, and one that only the right name can mend.
        may(",b,?cd", "bd", 0, 4, 0);
        may(",b,cd", "bd", 0, 4, 0);
    }

    private static void bits() {
        for (int n = 0; n <= 5; n++) {
            Editor x = new Editor();
            due(true, x.token(0, n));
            due(OK, x.model(0));
            due(OK, x.element(0, 0));
            due(0, x.insert(0, 0, 0));
            due(1 << n, x.may(0, 0));
        }
        may("*|a|b|c|d|ef", "", 63);
        may("*|a|b|c|d|ef", "abcdef", 63, 63, 63, 63, 63, 63, 63);
        may("|a|b|c|d|ef", "", 63);
        may("|a|b|c|d|ef", "a", 0, 0);
    }

    private static void mayOfNone() {
        due(0, new Editor().may(0, 0));
        Editor x = rooted("*a", "a");
        due(1, x.may(0, 0));
        due(1, x.may(1, 0));
        for (int e : outside(0, 1)) {
            due(0, x.may(e, 0));
        }
        for (int e : outside(0, 23)) {
            due(0, x.may(e, 0));
        }
        due(1, x.remove(1));
        due(0, x.may(1, 0));
    }

    private static void mayOutside() {
        Editor x = rooted("*b", "");
        due(2, x.may(0, 0));
        for (int k : outside(0, 0)) {
            due(0, x.may(0, k));
        }
        x.append(0, "bbb");
        due(2, x.may(0, 0));
        due(2, x.may(0, 3));
        for (int k : outside(0, 3)) {
            due(0, x.may(0, k));
        }
        due(1, x.remove(3));
        due(0, x.may(0, 3));
        due(2, x.may(0, 2));
    }

    /** An editor whose element 1, of name 1, has no type, an undefined, a SIMPLE or, last, a COMPLEX one. */
    private static Editor withKind(int kind) {
        Editor x = rooted("*b", "b");
        if (kind > 0) {
            due(OK, x.element(1, 3));
        }
        if (kind == 2) {
            due(OK, x.simple(3, 0, 9));
        }
        if (kind == 3) {
            due(OK, x.model(3, "+b"));
        }
        return x;
    }

    private static void mayOfNoComplex() {
        due(0, withKind(0).may(1, 0));
        due(0, withKind(1).may(1, 0));
        due(0, withKind(2).may(1, 0));
        due(2, withKind(3).may(1, 0));
        // It is COMPLEX no longer.
        Editor x = withKind(3);
        due(OK, x.simple(3, 0, 9));
        due(0, x.may(1, 0));
        due(OK, x.model(3, "*c"));
        due(4, x.may(1, 0));
        due(OK, x.element(1, -1));
        due(0, x.may(1, 0));
    }

    private static void mayInFull() {
        Editor x = rooted("*b", "bbbbbbbbbbbbbbbbbbbbbb");
        due(2, x.may(0, 22));
        due(0, x.may(0, 23));
        due(23, x.insert(0, 22, 1));
        for (int k = 0; k <= 23; k++) {
            due(2, x.may(0, k));
        }
        due(0, x.may(0, 24));
        due(BAD, x.insert(0, 0, 1));
    }

    private static void fits(String model, String row, int fitting, int missing) {
        Editor x = rooted(model, row);
        int count = x.fitting(0);
        latestCall += " of " + row + " in " + model;
        due(fitting, count);
        count = x.missing(0);
        latestCall += " of " + row + " in " + model;
        due(missing, count);
    }

    private static void fitting() {
        fits(",bc", "", 0, 2);
        fits(",bc", "b", 1, 1);
        fits(",bc", "bc", 2, 0);
        fits(",bc", "bcc", 2, -1);
        fits(",bc", "bd", 1, -1);
        fits(",bc", "c", 0, -1);
        fits(",bc", "cbc", 0, -1);
        fits(",bc", "bdbc", 1, -1);
        fits(".", "", 0, 0);
        fits(".", "b", 0, -1);
        fits("*b", "bbbbbbbbbbbbbbbbbbbbbbb", 23, 0);
        fits("*b", "bbbbbbbbbbbbbbbbbbbbbbc", 22, -1);
        fits("*b", "cbbbbbbbbbbbbbbbbbbbbbb", 0, -1);
        fits("33b", "bb", 2, 1);
        fits("33b", "bbb", 3, 0);
        fits("33b", "bbbb", 3, -1);
        fits("|,b,cd,e,bc", "ebd", 2, -1);
    }

    private static void fittingOfNone() {
        due(-1, new Editor().fitting(0));
        Editor x = rooted("*a", "a");
        due(1, x.fitting(0));
        due(0, x.fitting(1));
        for (int e : outside(0, 1)) {
            due(-1, x.fitting(e));
        }
        for (int e : outside(0, 23)) {
            due(-1, x.fitting(e));
        }
        due(1, x.remove(1));
        due(-1, x.fitting(1));
        due(0, x.fitting(0));
    }

    private static void fittingOfNoComplex() {
        due(-1, withKind(0).fitting(1));
        due(-1, withKind(1).fitting(1));
        due(-1, withKind(2).fitting(1));
        due(0, withKind(3).fitting(1));
        Editor x = withKind(3);
        due(OK, x.simple(3, 0, 9));
        due(-1, x.fitting(1));
        due(OK, x.model(3, "*c"));
        due(0, x.fitting(1));
    }

    private static void missing() {
        fits("*b", "", 0, 0);
        fits("?b", "", 0, 0);
        fits("b", "", 0, 1);
        fits("+b", "", 0, 1);
        fits("+b", "b", 1, 0);
        fits("33b", "", 0, 3);
        fits("13b", "", 0, 1);
        fits("03b", "", 0, 0);
        fits("33b", "bb", 2, 1);
        fits("&bc", "", 0, 2);
        fits("&bc", "c", 1, 1);
        // The least of several ways, wherever it stands.
        fits("|,b,cd,ef", "", 0, 2);
        fits("|,ef,b,cd", "", 0, 2);
        fits("|,b,cd,,efa", "e", 1, 2);
        fits("|.,bc", "", 0, 0);
        fits("|.,bc", "b", 1, 1);
        fits("*,b,cd", "bcd", 3, 0);
        fits("*,b,cd", "bcdb", 4, 2);
        // The most that can be missing.
        fits(", 33 33 33 a , b , c d", "", 0, 30);
        fits(", 33 33 33 a , b , c d", "a", 1, 29);
        fits(", 33 33 33 a , b , c d", "aaaaaaaaaaaaaaaaaaaaaaa", 23, 7);
        fits(", 03 33 33 a , b , c d", "a", 1, 11);
        fits("33 33 33 a", "", 0, 27);
        // Only behind the last one, though another place would need fewer.
        fits("|,bc,c,b,db", "c", 1, 3);
    }

    private static void nothingHelps() {
        fits(",bc", "c", 0, -1);
        fits(",bc", "bb", 1, -1);
        fits(",bc", "bc", 2, 0);
        fits(",bc", "bcb", 2, -1);
        fits(".", "", 0, 0);
        fits(".", "a", 0, -1);
        fits("03a", "aaa", 3, 0);
        fits("03a", "aaaa", 3, -1);
        fits("*a", "f", 0, -1);
        // The word would be there if a child in the middle went.
        fits(",b*c", "bcdc", 2, -1);
    }

    private static void missingOfNone() {
        due(-1, new Editor().missing(0));
        Editor x = rooted("+a", "a");
        due(0, x.missing(0));
        due(1, x.missing(1));
        for (int e : outside(0, 1)) {
            due(-1, x.missing(e));
        }
        for (int e : outside(0, 23)) {
            due(-1, x.missing(e));
        }
        due(1, x.remove(1));
        due(-1, x.missing(1));
        due(1, x.missing(0));
    }

    private static void missingOfNoComplex() {
        due(-1, withKind(0).missing(1));
        due(-1, withKind(1).missing(1));
        due(-1, withKind(2).missing(1));
        due(1, withKind(3).missing(1));
        Editor x = withKind(3);
        due(OK, x.simple(3, 0, 9));
        due(-1, x.missing(1));
        due(OK, x.model(3, "*c"));
        due(0, x.missing(1));
    }

    private static void childOf() {
        Editor x = full();
        for (int k = 0; k <= 22; k++) {
            due(23 - k, x.child(0, k));
        }
        due(-1, x.child(0, 23));
        Editor y = deep();
        for (int e = 0; e <= 22; e++) {
            due(e + 1, y.child(e, 0));
            due(-1, y.child(e, 1));
        }
        due(-1, y.child(23, 0));
    }

    private static void noChild() {
        due(-1, new Editor().child(0, 0));
        Editor x = new Editor();
        due(0, x.insert(0, 0, 0));
        due(-1, x.child(0, 0));
        x.append(0, "aa");
        for (int k : outside(0, 1)) {
            due(-1, x.child(0, k));
        }
        for (int e : outside(0, 2)) {
            due(-1, x.child(e, 0));
        }
        for (int e : outside(0, 23)) {
            due(-1, x.child(e, 0));
        }
        due(1, x.child(0, 0));
        due(2, x.child(0, 1));
        due(1, x.remove(1));
        due(2, x.child(0, 0));
        due(-1, x.child(0, 1));
        due(-1, x.child(1, 0));
        due(-1, x.child(2, 0));
    }
}
