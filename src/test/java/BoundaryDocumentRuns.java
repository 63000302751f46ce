/** The boundary cases that promises 9 to 14, those that change the document, name: one test for each sentence, on both sides. */
public final class BoundaryDocumentRuns extends Runs {
    public static void main(String[] args) {
        sentence("Promise 9: 'the root if there is no document'", BoundaryDocumentRuns::rootIfNone);
        sentence("Promise 9: '(e and k are not looked at then)'", BoundaryDocumentRuns::notLookedAt);
        sentence("Promise 9: 'child k (0 the first, up to the number of children)'", BoundaryDocumentRuns::placesOfInsert);
        sentence("Promise 9: 'A new element with name n'", BoundaryDocumentRuns::newElement);
        sentence("Promise 9: 'BAD if n is outside'", BoundaryDocumentRuns::nameOutside);
        sentence("Promise 9: 'e is no element'", BoundaryDocumentRuns::insertIntoNone);
        sentence("Promise 9: 'k is outside'", BoundaryDocumentRuns::insertOutside);
        sentence("Promise 9: 'or there are 24'", BoundaryDocumentRuns::twentyFour);
        sentence("Promise 10: 'Element e and all below it go'", BoundaryDocumentRuns::allBelowGo);
        sentence("Promise 10: 'How many'", BoundaryDocumentRuns::howManyGo);
        sentence("Promise 10: 'BAD if there is no such element'", BoundaryDocumentRuns::removeNone);
        sentence("Promise 11: 'with all below it, becomes child k of element p'", BoundaryDocumentRuns::withAllBelow);
        sentence("Promise 11: '(counted without e itself)'", BoundaryDocumentRuns::withoutItself);
        sentence("Promise 11: 'BAD if there is no e or p'", BoundaryDocumentRuns::moveNone);
        sentence("Promise 11: 'p is e or below it'", BoundaryDocumentRuns::moveBelowItself);
        sentence("Promise 11: 'or k is outside'", BoundaryDocumentRuns::moveOutside);
        sentence("Promise 11: 'becomes child k', while there are 24", BoundaryDocumentRuns::moveInFull);
        sentence("Promise 12: 'Element e gets the name n'", BoundaryDocumentRuns::renamed);
        sentence("Promise 12: 'BAD if either is outside'", BoundaryDocumentRuns::renameOutside);
        sentence("Promise 13: 'has this VALUE from now on, or (has false) none'", BoundaryDocumentRuns::values);
        sentence("Promise 13: 'BAD if there is no such element'", BoundaryDocumentRuns::valueOfNone);
        sentence("Promise 14: 'has this value of attribute a from now on, or (has false) none'", BoundaryDocumentRuns::attributes);
        sentence("Promise 14: 'BAD if there is no such element'", BoundaryDocumentRuns::setOfNone);
        sentence("Promise 14: 'or a is outside'", BoundaryDocumentRuns::setOutside);
        end();
    }

    private static void rootIfNone() {
        Editor x = new Editor();
        due(0, x.insert(0, 0, 3));
        children(x, 0);
        due(1, x.check(2));
        // There is a document now, so the next is a child.
        due(1, x.insert(0, 0, 3));
        children(x, 0, 1);
        due(2, x.remove(0));
        due(0, x.insert(0, 0, 3));
        children(x, 0);
        due(BAD, x.status(1));
    }

    private static void notLookedAt() {
        int[] any = {LEAST, -1, 0, 1, 23, 24, GREATEST};
        for (int e : any) {
            for (int k : any) {
                Editor x = new Editor();
                due(0, x.insert(e, k, 0));
                children(x, 0);
                // They are looked at from the second on.
                due(e == 0 && k == 0 ? 1 : BAD, x.insert(e, k, 0));
                due(e == 0 && k == 0 ? 2 : 1, x.remove(0));
                due(0, x.insert(e, k, 5));
                due(1, x.check(2));
            }
        }
    }

    private static void placesOfInsert() {
        Editor x = new Editor();
        due(0, x.insert(0, 0, 0));
        due(1, x.insert(0, 0, 0));
        children(x, 0, 1);
        due(2, x.insert(0, 1, 0));
        children(x, 0, 1, 2);
        due(3, x.insert(0, 0, 0));
        children(x, 0, 3, 1, 2);
        due(4, x.insert(0, 3, 0));
        children(x, 0, 3, 1, 2, 4);
        due(5, x.insert(0, 2, 0));
        children(x, 0, 3, 1, 5, 2, 4);
        due(6, x.insert(4, 0, 0));
        children(x, 4, 6);
        children(x, 0, 3, 1, 5, 2, 4);
        // As many places as there are children, and one more, up to the last element.
        for (int count = 0; count < 23; count++) {
            Editor y = new Editor();
            due(0, y.insert(0, 0, 0));
            for (int k = 0; k < count; k++) {
                due(k + 1, y.insert(0, k, 0));
            }
            due(BAD, y.insert(0, count + 1, 0));
            due(BAD, y.insert(0, -1, 0));
            due(count + 1, y.insert(0, count, 0));
            due(count + 1, y.child(0, count));
        }
    }

    /** Nothing is left of an element that had the number before. */
    private static void newElement() {
        for (int n = 0; n <= 5; n++) {
            Editor x = new Editor();
            due(OK, x.model(n, "*a"));
            due(OK, x.element(n, n));
            due(0, x.insert(0, 0, n));
            due(OK, x.status(0));
            due(1, x.insert(0, 0, n == 0 ? 1 : 0));
            due(OK, x.value(1, true, 4));
            for (int a = 0; a <= 3; a++) {
                due(OK, x.set(1, a, true, 4));
            }
            due(2, x.insert(1, 0, 5));
            due(2, x.remove(1));
            due(1, x.insert(0, 0, n));
            due(OK, x.status(1));
            children(x, 1);
            due(2, x.remove(0));
            due(0, x.insert(0, 0, n));
            due(OK, x.status(0));
        }
        // The same for the root's number.
        Editor y = rooted("*a", "a");
        due(OK, y.value(0, true, 4));
        due(OK, y.set(0, 0, true, 4));
        due(2, y.remove(0));
        due(0, y.insert(0, 0, 0));
        due(OK, y.status(0));
        children(y, 0);
    }

    private static void nameOutside() {
        for (int n : outside(0, 5)) {
            Editor x = new Editor();
            due(BAD, x.insert(0, 0, n));
            due(0, x.check(2));
            due(BAD, x.status(0));
            due(0, x.insert(7, 7, 0));
            due(BAD, x.insert(0, 0, n));
            due(1, x.check(2));
            children(x, 0);
            due(1, x.insert(0, 0, 5));
        }
    }

    private static void insertIntoNone() {
        Editor x = new Editor();
        due(0, x.insert(0, 0, 0));
        due(1, x.insert(0, 0, 0));
        for (int e : outside(0, 1)) {
            due(BAD, x.insert(e, 0, 0));
        }
        for (int e : outside(0, 23)) {
            due(BAD, x.insert(e, 0, 0));
        }
        due(2, x.check(2));
        due(2, x.insert(1, 0, 0));
        due(2, x.remove(1));
        due(BAD, x.insert(1, 0, 0));
        due(BAD, x.insert(2, 0, 0));
        due(1, x.insert(0, 0, 0));
        due(2, x.insert(1, 0, 0));
    }

    private static void insertOutside() {
        Editor x = new Editor();
        due(0, x.insert(0, 0, 0));
        for (int k : outside(0, 0)) {
            due(BAD, x.insert(0, k, 0));
        }
        due(1, x.insert(0, 0, 0));
        for (int k : outside(0, 1)) {
            due(BAD, x.insert(0, k, 0));
        }
        // The number of e's own children counts, not that of another.
        for (int k : outside(0, 0)) {
            due(BAD, x.insert(1, k, 0));
        }
        due(2, x.check(2));
        due(2, x.insert(0, 1, 0));
        children(x, 0, 1, 2);
        due(1, x.remove(2));
        due(BAD, x.insert(0, 2, 0));
    }

    private static void twentyFour() {
        Editor x = full();
        due(24, x.check(2));
        for (int e : new int[] {0, 1, 23, 24, -1}) {
            for (int n : new int[] {0, 5, 6}) {
                due(BAD, x.insert(e, 0, n));
            }
        }
        due(BAD, x.insert(0, 23, 0));
        due(24, x.check(2));
        due(1, x.remove(13));
        due(23, x.check(2));
        due(13, x.insert(0, 22, 0));
        due(24, x.check(2));
        due(BAD, x.insert(13, 0, 0));
        due(24, x.remove(0));
        due(0, x.insert(23, 23, 0));
        Editor y = deep();
        due(BAD, y.insert(23, 0, 0));
        due(BAD, y.insert(0, 0, 0));
        due(BAD, y.insert(0, 1, 0));
        due(1, y.remove(23));
        due(23, y.insert(0, 1, 0));
        children(y, 0, 1, 23);
    }

    private static void allBelowGo() {
        Editor x = new Editor();
        due(0, x.insert(0, 0, 0));
        x.append(0, "aaa");
        x.append(2, "aa");
        x.append(5, "a");
        due(4, x.remove(2));
        for (int e : new int[] {2, 4, 5, 6}) {
            due(BAD, x.status(e));
            due(-1, x.child(e, 0));
        }
        children(x, 0, 1, 3);
        due(3, x.check(2));
        // The first and the last child, then the only one.
        due(1, x.remove(1));
        children(x, 0, 3);
        due(1, x.remove(3));
        children(x, 0);
        due(1, x.remove(0));
        due(0, x.check(2));
        due(BAD, x.status(0));
    }

    private static void howManyGo() {
        due(24, full().remove(0));
        due(1, full().remove(23));
        for (int e = 0; e <= 23; e++) {
            Editor x = deep();
            due(24 - e, x.remove(e));
            due(e, x.check(2));
            due(-1, x.child(e - 1, 0));
        }
        Editor y = new Editor();
        due(0, y.insert(0, 0, 0));
        due(1, y.remove(0));
        due(0, y.check(2));
    }

    private static void removeNone() {
        Editor x = new Editor();
        due(BAD, x.remove(0));
        due(0, x.insert(0, 0, 0));
        due(1, x.insert(0, 0, 0));
        for (int e : outside(0, 1)) {
            due(BAD, x.remove(e));
        }
        for (int e : outside(0, 23)) {
            due(BAD, x.remove(e));
        }
        due(2, x.check(2));
        children(x, 0, 1);
        due(1, x.remove(1));
        due(BAD, x.remove(1));
        due(1, x.remove(0));
        due(BAD, x.remove(0));
        due(0, x.check(2));
    }

    /** 0 has the children 1, 2, 3; 2 has 4 and 5; 5 has 6. */
    private static Editor family() {
        Editor x = new Editor();
        due(0, x.insert(0, 0, 0));
        x.append(0, "bcd");
        x.append(2, "ef");
        x.append(5, "a");
        children(x, 0, 1, 2, 3);
        children(x, 2, 4, 5);
        children(x, 5, 6);
        return x;
    }

    private static void withAllBelow() {
        Editor x = family();
        due(OK, x.move(2, 3, 0));
        children(x, 0, 1, 3);
        children(x, 3, 2);
        children(x, 2, 4, 5);
        children(x, 5, 6);
        due(7, x.check(2));
        due(OK, x.move(5, 0, 0));
        children(x, 0, 5, 1, 3);
        children(x, 5, 6);
        children(x, 2, 4);
        due(OK, x.move(6, 0, 3));
        children(x, 0, 5, 1, 3, 6);
        children(x, 5);
        due(3, x.remove(3));
        children(x, 0, 5, 1, 6);
    }

    private static void withoutItself() {
        int[][] orders = {{1, 2, 3}, {2, 1, 3}, {2, 3, 1}, {2, 1, 3}, {1, 2, 3}, {1, 3, 2}, {3, 1, 2}, {1, 3, 2}, {1, 2, 3}};
        for (int e = 1; e <= 3; e++) {
            for (int k = 0; k <= 2; k++) {
                Editor x = family();
                due(OK, x.move(e, 0, k));
                children(x, 0, orders[3 * (e - 1) + k]);
                children(x, 2, 4, 5);
            }
        }
        // Under its own parent the place behind all the others is 2, and 3 is outside; under another it is its number.
        due(BAD, family().move(2, 0, 3));
        due(BAD, family().move(1, 0, 3));
        due(BAD, family().move(3, 0, 3));
        due(OK, family().move(3, 0, 2));
        due(OK, family().move(4, 0, 3));
        due(BAD, family().move(4, 0, 4));
        due(OK, family().move(1, 2, 2));
        due(BAD, family().move(1, 2, 3));
        // An only child can only go where it is.
        due(OK, family().move(6, 5, 0));
        due(BAD, family().move(6, 5, 1));
    }

    private static void moveNone() {
        Editor none = new Editor();
        due(BAD, none.move(0, 0, 0));
        Editor x = family();
        for (int e : outside(0, 6)) {
            due(BAD, x.move(e, 0, 0));
            due(BAD, x.move(1, e, 0));
            due(BAD, x.move(e, e, 0));
        }
        for (int e : outside(0, 23)) {
            due(BAD, x.move(e, 0, 0));
            due(BAD, x.move(1, e, 0));
        }
        children(x, 0, 1, 2, 3);
        due(1, x.remove(1));
        due(BAD, x.move(1, 0, 0));
        due(BAD, x.move(2, 1, 0));
        children(x, 0, 2, 3);
    }

    private static void moveBelowItself() {
        Editor x = family();
        for (int e = 0; e <= 6; e++) {
            due(BAD, x.move(e, e, 0));
            due(BAD, x.move(0, e, 0));
        }
        due(BAD, x.move(2, 4, 0));
        due(BAD, x.move(2, 5, 0));
        due(BAD, x.move(2, 6, 0));
        due(BAD, x.move(5, 6, 0));
        children(x, 0, 1, 2, 3);
        children(x, 2, 4, 5);
        children(x, 5, 6);
        // What is beside it or above it will do.
        due(OK, x.move(5, 4, 0));
        due(OK, x.move(6, 2, 0));
        due(OK, x.move(2, 0, 0));
        children(x, 0, 2, 1, 3);
        children(x, 2, 6, 4);
        children(x, 4, 5);
        Editor y = deep();
        for (int e = 0; e <= 22; e++) {
            due(BAD, y.move(e, 23, 0));
            due(BAD, y.move(e, e + 1, 0));
        }
        due(OK, y.move(23, 0, 0));
        due(OK, y.move(1, 23, 0));
        children(y, 0, 23);
        children(y, 23, 1);
        due(BAD, y.move(23, 22, 0));
    }

    private static void moveOutside() {
        Editor x = family();
        for (int k : outside(0, 2)) {
            due(BAD, x.move(2, 0, k));
            due(BAD, x.move(6, 2, k));
        }
        for (int k : outside(0, 0)) {
            due(BAD, x.move(2, 3, k));
            due(BAD, x.move(6, 5, k));
        }
        children(x, 0, 1, 2, 3);
        children(x, 2, 4, 5);
        children(x, 5, 6);
        due(OK, x.move(6, 2, 2));
        children(x, 2, 4, 5, 6);
        due(OK, x.move(2, 3, 0));
        children(x, 3, 2);
    }

    private static void moveInFull() {
        Editor x = full();
        due(23, x.child(0, 0));
        due(BAD, x.move(23, 0, 23));
        due(OK, x.move(23, 0, 22));
        due(23, x.child(0, 22));
        due(22, x.child(0, 0));
        due(OK, x.move(23, 0, 0));
        due(23, x.child(0, 0));
        due(1, x.child(0, 22));
        due(-1, x.child(0, 23));
        for (int e = 2; e <= 23; e++) {
            due(OK, x.move(e, 1, e - 2));
        }
        children(x, 0, 1);
        due(23, x.child(1, 21));
        due(-1, x.child(1, 22));
        due(24, x.check(2));
        due(BAD, x.insert(0, 0, 0));
    }

    private static void renamed() {
        Editor x = rooted("f", "b");
        due(CONTENT, x.status(0));
        due(OK, x.rename(1, 5));
        due(OK, x.status(0));
        due(OK, x.rename(1, 5));
        due(OK, x.status(0));
        due(OK, x.rename(1, 0));
        due(CONTENT, x.status(0));
        due(CONTENT, x.status(1));
        // Children, VALUE and attributes stay.
        x.append(1, "f");
        due(OK, x.value(1, true, 3));
        due(OK, x.rename(1, 1));
        due(TYPELESS, x.status(1));
        due(OK, x.rename(1, 0));
        children(x, 1, 2);
        due(VALUE, x.status(1));
    }

    private static void renameOutside() {
        Editor x = rooted("b", "b");
        due(OK, x.status(0));
        for (int n : outside(0, 5)) {
            due(BAD, x.rename(0, n));
            due(BAD, x.rename(1, n));
        }
        for (int e : outside(0, 1)) {
            due(BAD, x.rename(e, 0));
        }
        for (int e : outside(0, 23)) {
            due(BAD, x.rename(e, 0));
            due(BAD, x.rename(e, 6));
        }
        due(OK, x.status(0));
        due(TYPELESS, x.status(1));
        due(BAD, new Editor().rename(0, 0));
    }

    private static void values() {
        for (int v : new int[] {LEAST, -1, 0, 1, GREATEST}) {
            Editor x = new Editor();
            due(OK, x.simple(0, v, v));
            due(OK, x.element(0, 0));
            due(0, x.insert(0, 0, 0));
            due(VALUE, x.status(0));
            due(OK, x.value(0, true, v));
            due(OK, x.status(0));
            due(OK, x.value(0, true, v == GREATEST ? v - 1 : v + 1));
            due(VALUE, x.status(0));
            due(OK, x.value(0, true, v));
            due(OK, x.value(0, false, v));
            due(VALUE, x.status(0));
            due(OK, x.value(0, false, v));
            due(OK, x.model(0, "*a"));
            due(OK, x.status(0));
        }
    }

    private static void valueOfNone() {
        Editor x = rooted("*a", "a");
        for (int e : outside(0, 1)) {
            due(BAD, x.value(e, true, 5));
            due(BAD, x.value(e, false, 5));
        }
        for (int e : outside(0, 23)) {
            due(BAD, x.value(e, true, 5));
        }
        due(OK, x.status(0));
        due(OK, x.status(1));
        // What was refused for a number does not wait for the element that gets it.
        due(2, x.insert(0, 0, 0));
        due(OK, x.status(2));
        due(1, x.remove(2));
        due(BAD, x.value(2, true, 5));
        due(2, x.insert(0, 0, 0));
        due(OK, x.status(2));
        due(BAD, new Editor().value(0, true, 0));
    }

    private static void attributes() {
        for (int a = 0; a <= 3; a++) {
            for (int v : new int[] {LEAST, 0, GREATEST}) {
                Editor x = rooted("*a", "a");
                due(OK, x.simple(1, v, v));
                due(OK, x.attribute(0, a, 2, 1));
                due(ATTRIBUTE, x.status(0));
                due(OK, x.set(0, a, true, v));
                due(OK, x.status(0));
                due(ATTRIBUTE, x.status(1));
                due(OK, x.set(0, a, true, 7));
                due(ATTRIBUTE, x.status(0));
                due(OK, x.attribute(0, a, 1, 1));
                due(ATTRIBUTE, x.status(0));
                due(OK, x.set(0, a, false, v));
                due(OK, x.status(0));
                due(OK, x.set(0, a, false, 7));
                due(OK, x.status(0));
            }
        }
    }

    private static void setOfNone() {
        Editor x = rooted("*a", "a");
        for (int e : outside(0, 1)) {
            due(BAD, x.set(e, 0, true, 5));
            due(BAD, x.set(e, 3, false, 5));
        }
        for (int e : outside(0, 23)) {
            due(BAD, x.set(e, 0, true, 5));
        }
        due(OK, x.status(0));
        due(OK, x.status(1));
        due(2, x.insert(0, 0, 0));
        due(OK, x.status(2));
        due(1, x.remove(2));
        due(BAD, x.set(2, 1, true, 5));
        due(2, x.insert(0, 0, 0));
        due(OK, x.status(2));
        due(BAD, new Editor().set(0, 0, true, 0));
    }

    private static void setOutside() {
        Editor x = rooted("*a", "aa");
        for (int a : outside(0, 3)) {
            for (int e = 0; e <= 2; e++) {
                due(BAD, x.set(e, a, true, 5));
            }
        }
        for (int e = 0; e <= 2; e++) {
            due(OK, x.status(e));
            due(OK, x.set(e, 0, true, 5));
            due(ATTRIBUTE, x.status(e));
            due(OK, x.set(e, 0, false, 5));
            due(OK, x.set(e, 3, true, 5));
            due(ATTRIBUTE, x.status(e));
        }
        for (int a : outside(0, 3)) {
            due(BAD, x.set(1, a, false, 5));
            due(ATTRIBUTE, x.status(1));
        }
    }
}
