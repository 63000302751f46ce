import java.util.Arrays;

/** The boundary cases that the document names before its promises: one test for each sentence, on both sides. */
public final class BoundaryTermsRuns extends Runs {
    private static final int[] TIMES = {1, 2, 3, 5, 6, 7, 10, 11, 15};

    public static void main(String[] args) {
        sentence("'at most 512 calls after it has been made'", BoundaryTermsRuns::lastCall);
        sentence("'NAMES are 0..5'", BoundaryTermsRuns::names);
        sentence("'an expression of at most 16 tokens'", BoundaryTermsRuns::tokens);
        sentence("'4 min + max, min 0..3, max 1..3, min up to max'", BoundaryTermsRuns::timesValues);
        sentence("'TIMES: min to max words of X'", BoundaryTermsRuns::timesWords);
        sentence("'NAME n: just n'", BoundaryTermsRuns::nameWords);
        sentence("'SEQ: a word of X, then one of Y'", BoundaryTermsRuns::seqWords);
        sentence("'CHOICE: the words of X and those of Y'", BoundaryTermsRuns::choiceWords);
        sentence("'OPTION: the words of X and the empty row'", BoundaryTermsRuns::optionWords);
        sentence("'any number of words of X one behind the other (also none)'", BoundaryTermsRuns::starWords);
        sentence("'PLUS: one or more'", BoundaryTermsRuns::plusWords);
        sentence("'NOTHING: the empty row'", BoundaryTermsRuns::nothingWords);
        sentence("'BOTH: a word of X and one of Y, in either order'", BoundaryTermsRuns::bothWords);
        sentence("'The WEIGHT of NAME is 1, of NOTHING 0'", BoundaryTermsRuns::weightOfLeaves);
        sentence("'of SEQ and CHOICE that of both parts'", BoundaryTermsRuns::weightOfSeqAndChoice);
        sentence("'of OPTION, STAR, PLUS that of the part'", BoundaryTermsRuns::weightOfRepeats);
        sentence("'of BOTH twice that of both parts'", BoundaryTermsRuns::weightOfBoth);
        sentence("'of TIMES max times that of the part'", BoundaryTermsRuns::weightOfTimes);
        sentence("'A model of a weight above 30 is LARGE'", BoundaryTermsRuns::heaviest);
        sentence("'go on with the same name'", BoundaryTermsRuns::sameName);
        sentence("'begin with the same row of names'", BoundaryTermsRuns::sameBeginning);
        sentence("'or in the same, seen in another way'", BoundaryTermsRuns::sameWord);
        sentence("'from one NAME token and in the other one .. from another'", BoundaryTermsRuns::sameToken);
        sentence("'TYPES 0..5'", BoundaryTermsRuns::types);
        sentence("'up to 4 LISTED ints'", BoundaryTermsRuns::listedInts);
        sentence("'between (both included)'", BoundaryTermsRuns::between);
        sentence("'between (both included)', attributes", BoundaryTermsRuns::betweenOfAttributes);
        sentence("'if any are listed, is one of them'", BoundaryTermsRuns::anyListed);
        sentence("'for each attribute 0..3'", BoundaryTermsRuns::attributes);
        sentence("'ELEMENTS with numbers 0..23'", BoundaryTermsRuns::elements);
        sentence("'the least number that is not in use'", BoundaryTermsRuns::leastNumber);
        sentence("'the root is made first'", BoundaryTermsRuns::rootFirst);
        sentence("'OK, or the first of these'", BoundaryTermsRuns::firstOfThese);
        sentence("'TYPELESS if its name has no type, or an undefined one'", BoundaryTermsRuns::typeless);
        sentence("'its type is SIMPLE and it has children'", BoundaryTermsRuns::simpleContent);
        sentence("'COMPLEX and the names of its children in order are no word'", BoundaryTermsRuns::complexContent);
        sentence("'SIMPLE and it has no VALUE, or one that is not of the type'", BoundaryTermsRuns::simpleValue);
        sentence("'COMPLEX and it has one'", BoundaryTermsRuns::complexValue);
        sentence("'an attribute that is absent in the type (for SIMPLE any)'", BoundaryTermsRuns::absentAttribute);
        sentence("'not of the attribute's type (which must be SIMPLE)'", BoundaryTermsRuns::attributeOfItsType);
        sentence("'or one that is required is missing'", BoundaryTermsRuns::requiredAttribute);
        end();
    }

    private static void lastCall() {
        for (int last = 0; last <= 6; last++) {
            Editor x = rooted(",b*c", "b");
            while (x.calls() < Editor.CALLS - 8) {
                due(2, x.insert(0, 1, 2));
                due(OK, x.status(0));
                due(1, x.remove(2));
                due(AMBIGUOUS, x.model(1, "|aa"));
            }
            while (x.calls() < Editor.CALLS - 1) {
                due(0, x.missing(0));
            }
            lastAnswer(x, last);
            due(Editor.CALLS, x.calls());
        }
    }

    private static void lastAnswer(Editor x, int last) {
        switch (last) {
            case 0 -> due(2, x.insert(0, 1, 2));
            case 1 -> due(OK, x.status(0));
            case 2 -> due(2, x.remove(0));
            case 3 -> due(1, x.place());
            case 4 -> due(true, x.token(0, 5));
            case 5 -> due(SYNTAX, x.model(5));
            default -> due(4, x.may(0, 1));
        }
    }

    private static void names() {
        for (int n = 0; n <= 5; n++) {
            Editor x = new Editor();
            due(true, x.token(0, n));
            due(OK, x.model(0));
            due(OK, x.element(n, 0));
            due(0, x.insert(0, 0, n));
            due(1 << n, x.may(0, 0));
            due(1, x.insert(0, 0, n));
            due(OK, x.rename(1, n));
            due(OK, x.status(0));
        }
        for (int n : outside(0, 5)) {
            Editor x = new Editor();
            due(false, x.token(0, n));
            due(BAD, x.element(n, 0));
            due(BAD, x.insert(0, 0, n));
            due(0, x.insert(0, 0, 0));
            due(BAD, x.insert(0, 0, n));
            due(BAD, x.rename(0, n));
        }
    }

    private static void tokens() {
        words(",a,a,a,a,a,a,aa", "aaaaaaaa");
        words("?,a,a,a,a,a,a,aa", "- aaaaaaaa");
        noWords("?,a,a,a,a,a,a,aa", "a aaaaaaa aaaaaaaaa");
        // Seventeen would be one expression, but the last of them is refused, and sixteen are none.
        Editor x = new Editor().draft(",a,a,a,a,a,a,a,a");
        due(false, x.token(0, 0));
        due(SYNTAX, x.model(0));
        Editor y = new Editor().draft("???????????????.");
        due(false, y.token(6, 0));
        due(OK, y.model(0));
    }

    private static void timesValues() {
        for (int v = -40; v <= 80; v++) {
            int value = v;
            boolean good = Arrays.stream(TIMES).anyMatch(g -> g == value);
            due(good, new Editor().token(8, v));
        }
        for (int v : outside(1, 15)) {
            due(false, new Editor().token(8, v));
        }
        for (int v : TIMES) {
            for (int bit = 4; bit < 32; bit++) {
                due(false, new Editor().token(8, v | 1 << bit));
            }
            due(false, new Editor().token(8, -v));
        }
    }

    private static void timesWords() {
        String[] rows = {"-", "a", "aa", "aaa", "aaaa", "aaaaaa"};
        for (int v : TIMES) {
            String model = "" + v / 4 + v % 4 + "a";
            for (String row : rows) {
                int count = row.equals("-") ? 0 : row.length();
                if (count >= v / 4 && count <= v % 4) {
                    words(model, row);
                } else {
                    noWords(model, row);
                }
            }
        }
        words("23,ab", "abab ababab");
        noWords("23,ab", "- ab abababab aab aba ababa");
        words("03,ab", "- ab abab ababab");
        noWords("03,ab", "a aba abababab");
        // An empty word of the part counts as one, so fewer names will do.
        words("33?a", "- a aa aaa");
        noWords("33?a", "aaaa");
        words("33.", "-");
        noWords("33.", "a");
    }

    private static void nameWords() {
        words("a", "a");
        noWords("a", "- b aa ab ba");
        words("f", "f");
        noWords("f", "- e ff");
    }

    private static void seqWords() {
        words(",bc", "bc");
        noWords(",bc", "- b c cb bcb bbc bcc");
        words(",?b?c", "- b c bc");
        noWords(",?b?c", "cb bb cc bcc");
    }

    private static void choiceWords() {
        words("|bc", "b c");
        noWords("|bc", "- bc cb bb d");
        words("|b.", "- b");
        words("|.b", "- b");
        noWords("|.b", "bb c");
    }

    private static void optionWords() {
        words("?b", "- b");
        noWords("?b", "bb c");
        words("?,bc", "- bc");
        noWords("?,bc", "b c bcbc");
    }

    private static void starWords() {
        words("*b", "- b bb bbbbbbbbbbbbbbbbbbbbbbb");
        noWords("*b", "c bc cb bbbbbbbbbbbbbbbbbbbbbbc");
        words("*,bc", "- bc bcbc bcbcbcbcbcbcbcbcbcbcbc");
        noWords("*,bc", "b c bcb cbc bcbcbcbcbcbcbcbcbcbcbcb");
    }

    private static void plusWords() {
        words("+b", "b bb bbbbbbbbbbbbbbbbbbbbbbb");
        noWords("+b", "- c bc cb bbbbbbbbbbbbbbbbbbbbbbc");
        words("+,bc", "bc bcbc");
        noWords("+,bc", "- b c bcb");
        words("+?b", "- b bb");
        noWords("+?b", "c bc");
    }

    private static void nothingWords() {
        words(".", "-");
        noWords(".", "a f aa");
        words(",.b", "b");
        noWords(",.b", "- bb");
        words("*.", "-");
        noWords("*.", "a");
    }

    private static void bothWords() {
        words("&bc", "bc cb");
        noWords("&bc", "- b c bb cc bcb cbc bccb");
        words("&?b?c", "- b c bc cb");
        noWords("&?b?c", "bb bcb cbc");
        words("&.b", "b");
        noWords("&.b", "- bb");
        // In either order, but not mixed.
        words("&,bcd", "bcd dbc");
        noWords("&,bcd", "bdc bc d dbcd");
    }

    /** A model of weight 30, then the same with one NAME more, each with something before them. */
    private static void heavy(String before, int with30, int with31) {
        due(with30, new Editor().model(0, before + ", 33 33 33 a , b , c d"));
        due(with31, new Editor().model(0, before + ", 33 33 33 a , b , c , d e"));
    }

    private static void weightOfLeaves() {
        heavy("", OK, LARGE);
        heavy(",.", OK, LARGE);
        heavy("|.", OK, LARGE);
        heavy(",f", LARGE, LARGE);
        due(OK, new Editor().model(0, "."));
        due(OK, new Editor().model(0, "33 33 33 33 33 33 33 33 33 33 33 33 33 33 33 ."));
        due(LARGE, new Editor().model(0, "33 33 33 33 33 33 33 33 33 33 33 33 33 33 33 a"));
        due(OK, new Editor().model(0, "&.&.&.&.&.&.&.."));
    }

    private static void weightOfSeqAndChoice() {
        due(OK, new Editor().model(0, ", 33 33 33 a 33 b"));
        due(LARGE, new Editor().model(0, ", 33 33 33 a , 33 b c"));
        due(LARGE, new Editor().model(0, ", 33 33 33 a 22 22 b"));
        due(OK, new Editor().model(0, "| 33 33 33 a 33 b"));
        due(LARGE, new Editor().model(0, "| 33 33 33 a | 33 b c"));
        due(LARGE, new Editor().model(0, "| 22 22 b 33 33 33 a"));
    }

    private static void weightOfRepeats() {
        heavy("?", OK, LARGE);
        heavy("*", OK, LARGE);
        heavy("+", OK, LARGE);
        heavy("?*+", OK, LARGE);
    }

    private static void weightOfBoth() {
        due(OK, new Editor().model(0, "& 33 ,a ,b ,c d 33 e"));
        due(LARGE, new Editor().model(0, "& 33 ,a ,b ,c d , 33 e f"));
        due(OK, new Editor().model(0, "& . 33 ,a ,b ,c ,d e"));
        due(LARGE, new Editor().model(0, "& . , 33 ,a ,b ,c ,d e f"));
        due(OK, new Editor().model(0, "& 33 a & ,b ,c d 33 e"));
        due(LARGE, new Editor().model(0, "& , f 33 a & ,b ,c d 33 e"));
        due(OK, new Editor().model(0, "& a & b & c d"));
        due(LARGE, new Editor().model(0, "& a & b & c & d e"));
    }

    private static void weightOfTimes() {
        heavy("01", OK, LARGE);
        heavy("11", OK, LARGE);
        heavy("02", LARGE, LARGE);
        for (String times : new String[] {"03", "13", "23", "33"}) {
            due(OK, new Editor().model(0, times + " , 33 33 a b"));
            due(LARGE, new Editor().model(0, times + " , 33 33 a , b c"));
        }
        for (String times : new String[] {"02", "12", "22"}) {
            due(OK, new Editor().model(0, times + " 33 ,a ,b ,c ,d e"));
            due(LARGE, new Editor().model(0, times + ", 33 ,a ,b ,c ,d e f"));
        }
    }

    /** The heaviest model that is taken answers right up to its last name. */
    private static void heaviest() {
        Editor x = rooted(", 03 33 33 a , b , c d", "");
        due(3, x.missing(0));
        due(0, x.may(0, 0));
        x.append(0, "aaaaaaaaaaaaaaaaaa");
        due(18, x.fitting(0));
        due(3, x.missing(0));
        x.append(0, "bcd");
        due(OK, x.status(0));
        due(1, x.remove(21));
        due(1 << 3, x.may(0, 20));
        Editor y = rooted(", 33 33 33 a , b , c d", "");
        due(30, y.missing(0));
        for (int count = 1; count <= 23; count++) {
            due(count, y.insert(0, 0, 0));
            due(30 - count, y.missing(0));
        }
        Editor z = rooted("& 33 ,e ,b ,c d 33 a", "aaaebcdebcdebcd");
        due(OK, z.status(0));
        Editor w = rooted("& 33 ,e ,b ,c d 33 a", "ebcdebcdebcdaa");
        due(1, w.missing(0));
        due(1, w.may(0, 14));
        due(15, w.insert(0, 14, 0));
        due(OK, w.status(0));
    }

    private static void clear(String... models) {
        for (String model : models) {
            due(OK, new Editor().model(0, model));
        }
    }

    private static void ambiguous(String... models) {
        for (String model : models) {
            due(AMBIGUOUS, new Editor().model(0, model));
        }
    }

    private static void sameName() {
        clear("|ab", ",?ab", ",*ab", ",+ab", "&ab", "*|ab", ",12ab", "|,ab,ba");
        ambiguous("|aa", ",?aa", ",*aa", ",+aa", "&aa", "*|aa", ",12aa", "|,ab,ac");
        ambiguous("|ff", ",?ff");
    }

    private static void sameBeginning() {
        clear(",aa", ",a,aa", ",a,ba", "|,ab,ca", ",33 33 aa", ",22,ab a", "|,ab,b,ab");
        ambiguous(",a|aa", ",a,?aa", ",33 23 aa", ",12,ab a", "|,ab,a,ab", ",a,b,c|dd", ", 33 33 33 b |aa", ",*,?ba?b");
        // The two beginnings are the same row, though their names come from different copies.
        clear("22,?b+a", ",22+ab");
        ambiguous(",22,?b+ab");
    }

    private static void sameWord() {
        // One word alone, seen in two ways.
        ambiguous("|aa", "|,ab,ab", ",?a?a");
        clear("|a.", "|..", ",..", "?.", "?|..", "*?a", "**a", "+*a", "?*a", "**.");
    }

    private static void sameToken() {
        // The same NAME again, by repeating or by copies, is no other token.
        clear("*a", "+a", "33a", "03a", "33 03 a", "22*a", "22?a", "&?ab", "&*ab", "*&ab", "33&ab", "&a&bc", "*12a", "12*a");
        ambiguous("&?a*a", "&?a?a", "&,ab,ac", "22|a,ab", "*,a?a", "33,?a,b?a", "03,a?a");
        clear(",a,a,a,a,a,a,aa", "33,aa", "22,a,ba");
    }

    private static void types() {
        for (int t = 0; t <= 5; t++) {
            Editor x = new Editor();
            due(OK, x.model(t, "*a"));
            due(OK, x.element(0, t));
            due(0, x.insert(0, 0, 0));
            due(OK, x.status(0));
            due(OK, x.attribute(t, 0, 2, t));
            due(ATTRIBUTE, x.status(0));
            due(OK, x.simple(t, 0, 0));
            due(OK, x.listed(t, 0));
            due(VALUE, x.status(0));
        }
        for (int t : outside(0, 5)) {
            Editor x = new Editor();
            due(BAD, x.model(t));
            due(BAD, x.simple(t, 0, 0));
            due(BAD, x.listed(t, 0));
            due(BAD, x.attribute(t, 0, 1, 0));
            due(t == -1 ? OK : BAD, x.element(0, t));
            due(OK, x.model(0, "*a"));
            due(BAD, x.attribute(0, 0, 1, t));
        }
    }

    /** An editor whose root, of name 0, has the SIMPLE type 0. */
    private static Editor simpleRoot(int least, int greatest) {
        Editor x = new Editor();
        due(OK, x.simple(0, least, greatest));
        due(OK, x.element(0, 0));
        due(0, x.insert(0, 0, 0));
        return x;
    }

    private static void values(Editor x, int status, int... values) {
        for (int v : values) {
            due(OK, x.value(0, true, v));
            int got = x.status(0);
            latestCall += " with VALUE " + v;
            due(status, got);
        }
    }

    private static void listedInts() {
        Editor x = simpleRoot(0, 9);
        values(x, OK, 1, 2, 3, 4, 5, 6);
        for (int count = 1; count <= 4; count++) {
            due(OK, x.listed(0, count));
            for (int v = 1; v <= 6; v++) {
                values(x, v <= count ? OK : VALUE, v);
            }
        }
        due(BAD, x.listed(0, 5));
        values(x, VALUE, 0, 5, 6, 9);
        values(x, OK, 1, 2, 3, 4);
    }

    private static void between() {
        Editor x = simpleRoot(-2, 4);
        values(x, OK, -2, -1, 0, 3, 4);
        values(x, VALUE, -3, 5, LEAST, GREATEST, 1 << 30, -1 << 30);
        values(simpleRoot(7, 7), OK, 7);
        values(simpleRoot(7, 7), VALUE, 6, 8, -7);
        values(simpleRoot(0, 0), OK, 0);
        values(simpleRoot(0, 0), VALUE, -1, 1, LEAST, GREATEST);
        values(simpleRoot(LEAST, GREATEST), OK, LEAST, -1, 0, 1, GREATEST);
        values(simpleRoot(LEAST, LEAST), OK, LEAST);
        values(simpleRoot(LEAST, LEAST), VALUE, LEAST + 1, GREATEST, 0);
        values(simpleRoot(GREATEST, GREATEST), OK, GREATEST);
        values(simpleRoot(GREATEST, GREATEST), VALUE, GREATEST - 1, LEAST, 0);
        values(simpleRoot(LEAST + 1, GREATEST - 1), OK, LEAST + 1, 0, GREATEST - 1);
        values(simpleRoot(LEAST + 1, GREATEST - 1), VALUE, LEAST, GREATEST);
    }

    /** A root of the COMPLEX type 0 whose attribute 2 is allowed, of the SIMPLE type 1. */
    private static Editor withAttribute(int least, int greatest) {
        Editor x = rooted("*a", "");
        due(OK, x.simple(1, least, greatest));
        due(OK, x.attribute(0, 2, 1, 1));
        return x;
    }

    private static void attributeValues(Editor x, int status, int... values) {
        for (int v : values) {
            due(OK, x.set(0, 2, true, v));
            int got = x.status(0);
            latestCall += " with attribute 2 of value " + v;
            due(status, got);
        }
    }

    private static void betweenOfAttributes() {
        attributeValues(withAttribute(-2, 4), OK, -2, 0, 4);
        attributeValues(withAttribute(-2, 4), ATTRIBUTE, -3, 5, LEAST, GREATEST);
        attributeValues(withAttribute(LEAST, GREATEST), OK, LEAST, 0, GREATEST);
        attributeValues(withAttribute(GREATEST, LEAST), ATTRIBUTE, LEAST, 0, GREATEST);
        Editor x = withAttribute(0, 9);
        due(OK, x.listed(1, 9));
        due(OK, x.listed(1, 10));
        attributeValues(x, OK, 9);
        attributeValues(x, ATTRIBUTE, 0, 8, 10);
    }

    private static void anyListed() {
        Editor x = simpleRoot(0, 9);
        values(x, OK, 0, 5, 9);
        due(OK, x.listed(0, 0));
        values(x, OK, 0);
        values(x, VALUE, 1, 5, 9, -1, 10);
        // Listed, but not between.
        due(OK, x.listed(0, -1));
        due(OK, x.listed(0, 10));
        values(x, VALUE, -1, 10);
        values(x, OK, 0);
        Editor y = simpleRoot(LEAST, GREATEST);
        due(OK, y.listed(0, LEAST));
        due(OK, y.listed(0, GREATEST));
        values(y, OK, LEAST, GREATEST);
        values(y, VALUE, 0, -1, LEAST + 1, GREATEST - 1);
        // All that is listed lies outside: no value is of the type.
        Editor z = simpleRoot(0, 9);
        due(OK, z.listed(0, 10));
        values(z, VALUE, 0, 9, 10);
    }

    private static void attributes() {
        for (int a = 0; a <= 3; a++) {
            Editor x = rooted("*a", "");
            due(OK, x.simple(1, 0, 9));
            due(OK, x.attribute(0, a, 2, 1));
            due(ATTRIBUTE, x.status(0));
            for (int other = 0; other <= 3; other++) {
                due(OK, x.set(0, other, true, 9));
                if (other != a) {
                    due(ATTRIBUTE, x.status(0));
                }
                due(OK, x.set(0, other, false, 9));
            }
            due(OK, x.set(0, a, true, 9));
            due(OK, x.status(0));
        }
        for (int a : outside(0, 3)) {
            Editor x = rooted("*a", "");
            due(BAD, x.attribute(0, a, 2, 0));
            due(BAD, x.set(0, a, true, 9));
            due(OK, x.status(0));
        }
    }

    private static void elements() {
        Editor x = full();
        due(BAD, x.insert(0, 0, 0));
        for (int e = 0; e <= 23; e++) {
            due(TYPELESS, x.status(e));
        }
        for (int e : outside(0, 23)) {
            due(BAD, x.status(e));
        }
        due(24, x.check(2));
        Editor y = deep();
        due(BAD, y.insert(23, 0, 0));
        due(23, y.child(22, 0));
        due(-1, y.child(23, 0));
        due(TYPELESS, y.status(23));
        due(24, y.check(0));
    }

    private static void leastNumber() {
        Editor x = full();
        for (int e : new int[] {23, 5, 1, 12}) {
            due(1, x.remove(e));
        }
        for (int e : new int[] {1, 5, 12, 23}) {
            due(e, x.insert(0, 0, 0));
        }
        due(BAD, x.insert(0, 0, 0));
        // One number is free in the middle each time, whatever was free before.
        for (int e = 23; e >= 1; e--) {
            due(1, x.remove(e));
            due(e, x.insert(0, 0, 0));
        }
        Editor y = deep();
        due(20, y.remove(4));
        for (int e = 4; e <= 23; e++) {
            due(e, y.insert(0, 0, 0));
        }
        due(BAD, y.insert(0, 0, 0));
        // A move gives no number back.
        due(OK, y.move(23, 3, 0));
        due(BAD, y.insert(0, 0, 0));
    }

    private static void rootFirst() {
        Editor x = new Editor();
        for (int round = 0; round < 3; round++) {
            due(0, x.check(2));
            due(0, x.insert(17, 3, 5));
            due(1, x.insert(0, 0, 5));
            due(2, x.insert(1, 0, 5));
            due(3, x.remove(0));
        }
    }

    /** Everything is wrong with the root at first; then one thing after the other is put right. */
    private static void firstOfThese() {
        Editor x = new Editor();
        due(0, x.insert(0, 0, 0));
        due(1, x.insert(0, 0, 1));
        due(OK, x.value(0, true, 10));
        due(OK, x.set(0, 3, true, 10));
        due(TYPELESS, x.status(0));
        due(OK, x.simple(0, 0, 9));
        due(OK, x.element(0, 0));
        due(CONTENT, x.status(0));
        due(1, x.remove(1));
        due(VALUE, x.status(0));
        due(OK, x.value(0, true, 9));
        due(ATTRIBUTE, x.status(0));
        due(OK, x.set(0, 3, false, 10));
        due(OK, x.status(0));

        due(OK, x.set(0, 3, true, 10));
        due(OK, x.model(0, "b"));
        due(CONTENT, x.status(0));
        due(1, x.insert(0, 0, 1));
        due(VALUE, x.status(0));
        due(OK, x.value(0, false, 0));
        due(ATTRIBUTE, x.status(0));
        due(OK, x.set(0, 3, false, 0));
        due(OK, x.status(0));
        due(OK, x.element(0, -1));
        due(TYPELESS, x.status(0));
    }

    private static void typeless() {
        Editor x = new Editor();
        due(0, x.insert(0, 0, 0));
        due(TYPELESS, x.status(0));
        for (int t = 0; t <= 5; t++) {
            due(OK, x.element(0, t));
            due(TYPELESS, x.status(0));
            due(OK, x.simple(t, 0, 9));
            due(VALUE, x.status(0));
            due(OK, x.model(t, "b"));
            due(CONTENT, x.status(0));
        }
        due(OK, x.element(0, -1));
        due(TYPELESS, x.status(0));
    }

    private static void simpleContent() {
        Editor x = simpleRoot(0, 9);
        due(OK, x.value(0, true, 0));
        due(OK, x.status(0));
        due(1, x.insert(0, 0, 5));
        due(CONTENT, x.status(0));
        due(2, x.insert(0, 0, 5));
        due(CONTENT, x.status(0));
        due(OK, x.move(2, 1, 0));
        due(CONTENT, x.status(0));
        due(2, x.remove(1));
        due(OK, x.status(0));
    }

    private static void complexContent() {
        Editor x = rooted(",bc", "");
        due(CONTENT, x.status(0));
        x.append(0, "b");
        due(CONTENT, x.status(0));
        x.append(0, "c");
        due(OK, x.status(0));
        // Only the children count, not what is below them, and only their order.
        x.append(1, "f");
        due(OK, x.status(0));
        due(OK, x.move(2, 0, 0));
        due(CONTENT, x.status(0));
        due(OK, x.move(2, 0, 1));
        x.append(0, "c");
        due(CONTENT, x.status(0));
    }

    private static void simpleValue() {
        Editor x = simpleRoot(0, 9);
        due(VALUE, x.status(0));
        values(x, OK, 0, 9);
        values(x, VALUE, -1, 10);
        // Zero is a VALUE, and none is not the same as zero.
        values(x, OK, 0);
        due(OK, x.value(0, false, 0));
        due(VALUE, x.status(0));
    }

    private static void complexValue() {
        Editor x = rooted("*b", "");
        due(OK, x.status(0));
        values(x, VALUE, 0, -1, LEAST, GREATEST);
        due(OK, x.value(0, false, 5));
        due(OK, x.status(0));
    }

    private static void absentAttribute() {
        for (int a = 0; a <= 3; a++) {
            Editor x = rooted("*b", "");
            due(OK, x.simple(1, 0, 9));
            due(OK, x.set(0, a, true, 0));
            due(ATTRIBUTE, x.status(0));
            due(OK, x.attribute(0, a, 1, 1));
            due(OK, x.status(0));
            due(OK, x.attribute(0, a, 0, 1));
            due(ATTRIBUTE, x.status(0));
            due(OK, x.set(0, a, false, 0));
            due(OK, x.status(0));

            Editor y = simpleRoot(0, 9);
            due(OK, y.value(0, true, 5));
            due(OK, y.set(0, a, true, 5));
            due(ATTRIBUTE, y.status(0));
            due(OK, y.set(0, a, false, 5));
            due(OK, y.status(0));

            // A SIMPLE type that allowed or required it while it was COMPLEX.
            for (int use = 1; use <= 2; use++) {
                due(OK, y.model(0, "*a"));
                due(OK, y.simple(1, 0, 9));
                due(OK, y.attribute(0, a, use, 1));
                due(OK, y.simple(0, 0, 9));
                due(OK, y.status(0));
                due(OK, y.set(0, a, true, 5));
                due(ATTRIBUTE, y.status(0));
                due(OK, y.set(0, a, false, 5));
            }
        }
    }

    private static void attributeOfItsType() {
        for (int use = 1; use <= 2; use++) {
            Editor x = rooted("*b", "");
            due(OK, x.attribute(0, 1, use, 4));
            due(OK, x.set(0, 1, true, 5));
            due(ATTRIBUTE, x.status(0));
            due(OK, x.simple(4, 5, 5));
            due(OK, x.status(0));
            due(OK, x.simple(4, 6, 6));
            due(ATTRIBUTE, x.status(0));
            due(OK, x.simple(4, 4, 5));
            due(OK, x.status(0));
            due(OK, x.model(4, "*b"));
            due(ATTRIBUTE, x.status(0));
            due(OK, x.attribute(0, 1, use, 0));
            due(ATTRIBUTE, x.status(0));
        }
        // Where it is not there, its type does not matter.
        Editor y = rooted("*b", "");
        due(OK, y.attribute(0, 1, 1, 4));
        due(OK, y.status(0));
    }

    private static void requiredAttribute() {
        Editor x = rooted("*b", "");
        due(OK, x.simple(1, 0, 9));
        for (int a = 0; a <= 3; a++) {
            due(OK, x.attribute(0, a, 2, 1));
        }
        for (int a = 3; a >= 0; a--) {
            due(ATTRIBUTE, x.status(0));
            due(OK, x.set(0, a, true, 0));
        }
        due(OK, x.status(0));
        for (int a = 0; a <= 3; a++) {
            due(OK, x.set(0, a, false, 0));
            due(ATTRIBUTE, x.status(0));
            due(OK, x.attribute(0, a, 1, 1));
            due(OK, x.status(0));
        }
    }
}
