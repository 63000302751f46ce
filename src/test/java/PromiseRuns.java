import java.util.function.Consumer;

/** For each promise of the document: ordinary inputs, the edges that it names, and wrong inputs. */
public final class PromiseRuns {
    private static final int OK = 0, TYPELESS = 1, CONTENT = 2, VALUE = 3, ATTRIBUTE = 4, SYNTAX = 5, LARGE = 6, AMBIGUOUS = 7, BAD = -1;
    private static final int[] OUTSIDE_SIX = {-1, 6, 7, 100, Integer.MIN_VALUE, Integer.MAX_VALUE};
    private static final int[] NO_ELEMENT = {-1, 1, 23, 24, 100, Integer.MIN_VALUE, Integer.MAX_VALUE};

    private static int wrong = 0;
    private static String promise = "";

    public static void main(String[] args) {
        run("promise 1", PromiseRuns::newObject);
        run("promise 2", PromiseRuns::token);
        run("promise 3", PromiseRuns::model);
        run("promise 3, words", PromiseRuns::words);
        run("promise 3, weight", PromiseRuns::weight);
        run("promise 3, ambiguous", PromiseRuns::ambiguous);
        run("promise 4", PromiseRuns::place);
        run("promise 5", PromiseRuns::simple);
        run("promise 6", PromiseRuns::listed);
        run("promise 7", PromiseRuns::attribute);
        run("promise 8", PromiseRuns::element);
        run("promise 9", PromiseRuns::insert);
        run("promise 10", PromiseRuns::remove);
        run("promise 11", PromiseRuns::move);
        run("promise 12", PromiseRuns::rename);
        run("promise 13", PromiseRuns::value);
        run("promise 14", PromiseRuns::set);
        run("promise 15", PromiseRuns::status);
        run("promise 16", PromiseRuns::check);
        run("promise 17", PromiseRuns::may);
        run("promise 18", PromiseRuns::fitting);
        run("promise 19", PromiseRuns::missing);
        run("promise 20", PromiseRuns::child);
        run("promise 21", PromiseRuns::orderAndLimits);
        System.out.println(wrong == 0 ? "all answers are as due" : wrong + " answers are not as due");
        if (wrong != 0) {
            System.exit(1);
        }
    }

    private static void run(String name, Consumer<SchemaEditor> test) {
        promise = name;
        test.accept(new SchemaEditor());
    }

    private static void due(String call, long got, long want) {
        if (got != want) {
            wrong++;
            System.out.println(promise + ": " + call + " answered " + got + ", due is " + want);
        }
    }

    private static void due(String call, boolean got, boolean want) {
        due(call, got ? 1 : 0, want ? 1 : 0);
    }

    /**
     * Drafts a model: letters a to f are the names 0 to 5; then , SEQ | CHOICE ? OPTION * STAR + PLUS . NOTHING
     * and & BOTH; two digits are TIMES with its min and max. Blanks are passed over.
     */
    private static void draft(SchemaEditor x, String text) {
        String signs = ",|?*+.&";
        for (int i = 0; i < text.length(); i++) {
            char c = text.charAt(i);
            if (c >= 'a' && c <= 'f') {
                due("NAME in " + text, x.token(0, c - 'a'), true);
            } else if (c >= '0' && c <= '3') {
                i++;
                due("TIMES in " + text, x.token(8, 4 * (c - '0') + text.charAt(i) - '0'), true);
            } else if (c != ' ') {
                due("token in " + text, x.token(1 + signs.indexOf(c), 0), true);
            }
        }
    }

    private static int model(SchemaEditor x, int t, String text) {
        draft(x, text);
        return x.model(t);
    }

    /** An editor whose root, of name 0 and type 0 with this model, has children of these names. */
    private static SchemaEditor withRoot(String text, String children) {
        SchemaEditor x = new SchemaEditor();
        due("model " + text, model(x, 0, text), OK);
        x.element(0, 0);
        x.insert(0, 0, 0);
        for (int k = 0; k < children.length(); k++) {
            due("insert child " + k, x.insert(0, k, children.charAt(k) - 'a'), k + 1);
        }
        return x;
    }

    private static void newObject(SchemaEditor x) {
        due("place()", x.place(), -1);
        for (int what = 0; what <= 2; what++) {
            due("check(" + what + ")", x.check(what), what == 1 ? -1 : 0);
        }
        for (int e = -1; e <= 24; e++) {
            due("status", x.status(e), BAD);
            due("remove", x.remove(e), BAD);
            due("may", x.may(e, 0), 0);
            due("fitting", x.fitting(e), -1);
            due("missing", x.missing(e), -1);
            due("child", x.child(e, 0), -1);
        }
        for (int t = 0; t <= 5; t++) {
            due("listed", x.listed(t, 0), BAD);
            due("attribute", x.attribute(t, 0, 1, 0), BAD);
            due("model of an empty draft", x.model(t), SYNTAX);
        }
        due("insert", x.insert(0, 0, 0), 0);
        for (int n = 0; n <= 5; n++) {
            x.rename(0, n);
            due("status with name " + n, x.status(0), TYPELESS);
        }
        SchemaEditor other = new SchemaEditor();
        due("another object has its own document", other.check(2), 0);
    }

    private static void token(SchemaEditor x) {
        for (int kind : new int[] {-1, 9, 10, Integer.MIN_VALUE, Integer.MAX_VALUE}) {
            due("token of kind " + kind, x.token(kind, 1), false);
        }
        for (int n : OUTSIDE_SIX) {
            due("NAME " + n, x.token(0, n), false);
        }
        for (int v = -20; v <= 40; v++) {
            boolean good = v >= 1 && v <= 3 || v >= 5 && v <= 7 || v == 10 || v == 11 || v == 15;
            SchemaEditor y = new SchemaEditor();
            due("TIMES " + v, y.token(8, v), good);
        }
        due("TIMES least int", x.token(8, Integer.MIN_VALUE), false);
        due("TIMES greatest int", x.token(8, Integer.MAX_VALUE), false);
        // Nothing of that may have been drafted.
        due("model after refused tokens", x.model(0), SYNTAX);

        for (int kind = 1; kind <= 7; kind++) {
            due("the value of kind " + kind + " isn't looked at", new SchemaEditor().token(kind, -7), true);
        }
        for (int n = 0; n <= 5; n++) {
            due("NAME " + n, new SchemaEditor().token(0, n), true);
        }
        for (int i = 0; i < 15; i++) {
            due("token " + i, x.token(3, 99), true);
        }
        due("token 15", x.token(0, 5), true);
        due("token 16", x.token(0, 5), false);
        due("the sixteen are one expression", x.model(0), OK);
        due("the draft is empty then", x.token(0, 5), true);
        due("and holds what came since", x.model(0), OK);
    }

    private static void model(SchemaEditor x) {
        x.element(0, 0);
        x.insert(0, 0, 0);
        for (String text : new String[] {"", "ab", ",a", ",", "|a", "&a", "?", "*", "+", "12", "a?", "..", ",abc", "a,bc", "?ab"}) {
            due("model " + text, model(x, 0, text), SYNTAX);
        }
        due("the type stays undefined", x.status(0), TYPELESS);
        for (int t : OUTSIDE_SIX) {
            draft(x, t == -1 ? ",b" : "");
            due("model(" + t + ")", x.model(t), BAD);
        }
        // The draft has stayed through all these, so one more NAME ends it.
        due("model that was begun before", model(x, 0, "c"), OK);
        due("status without children", x.status(0), CONTENT);
        x.insert(0, 0, 1);
        x.insert(0, 1, 2);
        due("status with b c", x.status(0), OK);

        due("model that is no expression", model(x, 0, "a b"), SYNTAX);
        due("model that is large", model(x, 0, "33 33 33 ,ab"), LARGE);
        due("model that is ambiguous", model(x, 0, "|aa"), AMBIGUOUS);
        due("the type stays", x.status(0), OK);
        due("each emptied the draft", model(x, 0, "b"), OK);
        due("the new model holds", x.status(0), CONTENT);
        due("fitting", x.fitting(0), 1);

        x.simple(1, 0, 9);
        due("the old model again", model(x, 0, ",bc"), OK);
        for (int a = 0; a <= 3; a++) {
            due("attribute", x.attribute(0, a, 2, 1), OK);
            due("required is missing", x.status(0), ATTRIBUTE);
            due("the same model once more", model(x, 0, ",bc"), OK);
            due("attribute " + a + " is absent", x.status(0), OK);
        }
        x.set(0, 2, true, 5);
        due("absent but there", x.status(0), ATTRIBUTE);
        x.set(0, 2, false, 5);
        x.simple(0, 0, 9);
        due("SIMPLE has no children", x.status(0), CONTENT);
        due("COMPLEX again", model(x, 0, ",bc"), OK);
        due("with the new model", x.status(0), OK);
        due("LARGE is told before AMBIGUOUS", model(x, 0, "33 33 33 ,aa"), LARGE);
        for (int t = 0; t <= 5; t++) {
            due("model(" + t + ")", model(x, t, "*a"), OK);
            due("it is COMPLEX", x.attribute(t, 0, 1, 0), OK);
        }
    }

    /** Which rows of names are words, told by the status of a root with such children. */
    private static void words(SchemaEditor unused) {
        dueWords("a", "a", "", "b", "aa", "ab");
        dueWords(",ab", "ab", "", "a", "b", "ba", "aba", "abb");
        dueWords("|ab", "a b", "", "ab", "ba", "c");
        dueWords("?a", "a -", "aa", "b");
        dueWords("*a", "- a aa aaaaaaaaaaaaaaaaaaaaaaa", "b", "aab");
        dueWords("+a", "a aa aaaaaaaaaaaaaaaaaaaaaaa", "", "b", "aab");
        dueWords(".", "-", "a");
        dueWords(",..", "-", "a");
        dueWords("&ab", "ab ba", "", "a", "b", "aba", "aab", "abab");
        dueWords("&?ab", "b ab ba", "", "a", "bb", "aba");
        dueWords("&*a*b", "- a b aa bb aab bba abb baa", "aba", "bab");
        dueWords("&a&bc", "abc acb bca cba", "bac", "cab", "ab", "abcb");
        dueWords("&,ab+c", "abc cab ccab abcc", "acb", "ab", "c", "cabc");
        dueWords("01a", "- a", "aa", "b");
        dueWords("02a", "- a aa", "aaa");
        dueWords("03a", "- a aa aaa", "aaaa");
        dueWords("11a", "a", "", "aa");
        dueWords("12a", "a aa", "", "aaa");
        dueWords("13a", "a aa aaa", "", "aaaa");
        dueWords("22a", "aa", "", "a", "aaa");
        dueWords("23a", "aa aaa", "", "a", "aaaa");
        dueWords("33a", "aaa", "", "a", "aa", "aaaa");
        dueWords("23,a?b", "aa aba aab abab aaa abaab ababab", "", "a", "ab", "abb", "aaaa");
        dueWords("33?a", "- a aa aaa", "aaaa");
        dueWords("22*|ab", "- a b abba aaaa", "c", "abc");
        dueWords("23&ab", "abba abab baba baab ababab", "", "ab", "aabb", "abababab");
        dueWords("*,?a?b", "- a b ab ba aab bba", "c", "abc");
        dueWords("+.", "-", "a");
        dueWords("*?a", "- a aa", "b");
        dueWords("+*a", "- a aa", "b");
        dueWords("33 33 33 33 33 33 .", "-", "a");
        dueWords("&.a", "a", "", "aa");
        dueWords(",*a,b*c", "b ab abc aabcc bc", "", "a", "c", "bb", "abca");
        dueWords("|,ab,cd", "ab cd", "", "ad", "cb", "abcd");
        dueWords("|.a", "- a", "aa");
        dueWords("|a.", "- a", "aa");
        dueWords(",?a,?bc", "c ac bc abc", "", "a", "ab", "bac");
        dueWords(",+a,?b?c", "a aa ab ac abc aabc", "", "b", "acb");
    }

    private static void dueWords(String text, String words, String... others) {
        for (String word : words.split(" ")) {
            String children = word.equals("-") ? "" : word;
            due(text + " with " + word, withRoot(text, children).status(0), OK);
        }
        for (String other : others) {
            due(text + " with other row " + other, withRoot(text, other).status(0), CONTENT);
        }
    }

    private static void weight(SchemaEditor x) {
        due("27 by TIMES", model(x, 0, "33 33 33 a"), OK);
        due("28: SEQ adds", model(x, 0, ", 33 33 33 a b"), OK);
        due("30: SEQ adds", model(x, 0, ", 33 33 33 a , b , c d"), OK);
        due("31: SEQ adds", model(x, 0, ", 33 33 33 a , b , c , d e"), LARGE);
        due("30: CHOICE adds", model(x, 0, "| 33 33 33 a | b | c d"), OK);
        due("31: CHOICE adds", model(x, 0, "| 33 33 33 a | b | c | d e"), LARGE);
        due("30: BOTH of 15", model(x, 0, "& 33 ,a ,b ,c d 03 e"), OK);
        due("32: BOTH of 16", model(x, 0, "& 33 ,a ,b ,c d , 03 e f"), LARGE);
        due("22: BOTH in BOTH", model(x, 0, "& a & b & c d"), OK);
        due("46: BOTH in BOTH", model(x, 0, "& a & b & c & d e"), LARGE);
        due("54: OPTION keeps it", model(x, 0, "?33 33 33 ,ab"), LARGE);
        due("54: STAR keeps it", model(x, 0, "*33 33 33 ,ab"), LARGE);
        due("54: PLUS keeps it", model(x, 0, "+33 33 33 ,ab"), LARGE);
        due("27: max counts, OPTION", model(x, 0, "?03 13 23 a"), OK);
        due("27: PLUS", model(x, 0, "+03 13 23 a"), OK);
        due("81: max counts", model(x, 0, "03 03 03 03 a"), LARGE);
        due("16: max 2", model(x, 0, "12 02 22 12 a"), OK);
        due("32: max 2", model(x, 0, "12 02 22 12 22 a"), LARGE);
        due("1: max 1", model(x, 0, "11 01 11 01 11 01 11 01 a"), OK);
        due("0: NOTHING", model(x, 0, "33 33 33 33 33 33 33 33 33 33 33 33 33 33 33 ."), OK);
        due("0: NOTHING doubled", model(x, 0, "&.&.&.&.&.&.&.."), OK);
        due("greatest weight", model(x, 0, "33 33 33 33 33 33 33 33 33 33 33 33 33 33 33 a"), LARGE);
        due("doubled often", model(x, 0, "&&&&&&&abcdefab"), LARGE);
    }

    private static void ambiguous(SchemaEditor x) {
        String[] clear = {
            "a", ".", ",aa", ",+ab", ",a+a", "*,?a?b", "&ab", "&a&bc", "&?ab", "&*a*b", "33a", ",22aa", ",33*ab", "23,ab",
            "02|ab", "*a", "+*a", "**a", "?*a", ",*a,b*a", "|,ab,ba", "13?a", "*23a", "22,a?b", "+|ab", ",a,?cb", "22,?a?,ba",
        };
        for (String text : clear) {
            due(text + " is not ambiguous", model(x, 0, text), OK);
        }
        due("place() while none was", x.place(), -1);
        dueDoubt(x, "|aa", 1);
        dueDoubt(x, ",?aa", 2);
        dueDoubt(x, ",*aa", 2);
        dueDoubt(x, ",+aa", 2);
        dueDoubt(x, "&aa", 1);
        dueDoubt(x, ",12aa", 2);
        dueDoubt(x, ",01aa", 2);
        dueDoubt(x, ",23aa", 2);
        dueDoubt(x, "|,ab,ac", 2);
        dueDoubt(x, "*|a,ab", 2);
        dueDoubt(x, "*,a?a", 2);
        dueDoubt(x, "+,a?a", 2);
        dueDoubt(x, "12,a?a", 2);
        dueDoubt(x, ",&a?bb", 4);
        dueDoubt(x, "&,a?ba", 2);
        dueDoubt(x, "|b|cb", 1);
        dueDoubt(x, ",12,a?bb", 5);
        due("the last b can only come fifth", model(x, 0, ",22,ab b"), OK);
        due("copies of one NAME are no doubt", model(x, 0, "22*a"), OK);
        due("copies of one NAME behind each other", model(x, 0, "33 12 a"), OK);
        // No copy of a has both b's behind it, but a a may have come from one copy or from both.
        dueDoubt(x, ",22,?b+ab", 4);
    }

    private static void dueDoubt(SchemaEditor x, String text, int place) {
        due(text + " is ambiguous", model(x, 0, text), AMBIGUOUS);
        due("place() of " + text, x.place(), place);
    }

    private static void place(SchemaEditor x) {
        due("place() at first", x.place(), -1);
        model(x, 0, ",ab");
        due("place() after a good model", x.place(), -1);
        dueDoubt(x, ",b?,a|cc", 6);
        model(x, 1, "a");
        due("it stays after a good model", x.place(), 6);
        model(x, 1, "");
        due("it stays after SYNTAX", x.place(), 6);
        model(x, 1, "33 33 33 33 a");
        due("it stays after LARGE", x.place(), 6);
        draft(x, "|aa");
        due("model(6)", x.model(6), BAD);
        due("it stays after BAD", x.place(), 6);
        due("model(5)", x.model(5), AMBIGUOUS);
        due("the latest one counts", x.place(), 1);
        dueDoubt(x, "|,?bc|dc", 4);
        // The doubt over c comes with the first name, but the least token is in doubt with the second.
        dueDoubt(x, "|,b|aa|cc", 4);
        // The least token is in doubt only behind a c that is itself in doubt.
        dueDoubt(x, "*,?a|c,ca", 3);
        // Both NAMES count, in whichever order they can come.
        dueDoubt(x, "&,ab,ac", 2);
        dueDoubt(x, "*,?a,b?a", 3);
    }

    private static void simple(SchemaEditor x) {
        x.element(0, 3);
        x.insert(0, 0, 0);
        for (int t : OUTSIDE_SIX) {
            due("simple(" + t + ")", x.simple(t, 0, 9), BAD);
        }
        due("nothing is defined by that", x.status(0), TYPELESS);
        due("simple(3, -2, 4)", x.simple(3, -2, 4), OK);
        int[] values = {Integer.MIN_VALUE, -3, -2, 0, 4, 5, Integer.MAX_VALUE};
        for (int v : values) {
            x.value(0, true, v);
            due("value " + v, x.status(0), v >= -2 && v <= 4 ? OK : VALUE);
        }
        due("simple of one value", x.simple(3, 4, 4), OK);
        x.value(0, true, 4);
        due("that value", x.status(0), OK);
        due("simple of all values", x.simple(3, Integer.MIN_VALUE, Integer.MAX_VALUE), OK);
        for (int v : values) {
            x.value(0, true, v);
            due("value " + v, x.status(0), OK);
        }
        due("least above greatest", x.simple(3, 5, 1), OK);
        for (int v : new int[] {0, 1, 3, 5, 6}) {
            x.value(0, true, v);
            due("no value is of it", x.status(0), VALUE);
        }
        x.simple(3, 0, 9);
        x.listed(3, 7);
        due("6 is not listed", x.status(0), VALUE);
        x.simple(3, 0, 9);
        due("nothing is listed after simple", x.status(0), OK);
        due("so 7 can be listed again", x.listed(3, 7), OK);
        model(x, 3, "*a");
        due("COMPLEX now", x.attribute(3, 0, 1, 0), OK);
        x.simple(3, 0, 9);
        due("and no longer", x.attribute(3, 0, 1, 0), BAD);
        due("a SIMPLE type that was COMPLEX", x.status(0), OK);
        for (int t = 0; t <= 5; t++) {
            due("simple(" + t + ")", x.simple(t, 0, 0), OK);
        }
    }

    private static void listed(SchemaEditor x) {
        for (int t : OUTSIDE_SIX) {
            due("listed(" + t + ")", x.listed(t, 0), BAD);
        }
        due("listed in an undefined type", x.listed(0, 0), BAD);
        model(x, 1, "*a");
        due("listed in a COMPLEX type", x.listed(1, 0), BAD);
        x.simple(0, 0, 9);
        x.simple(2, 0, 9);
        x.element(0, 0);
        x.insert(0, 0, 0);
        x.value(0, true, 8);
        due("nothing listed", x.status(0), OK);
        due("listed 3", x.listed(0, 3), OK);
        due("8 isn't listed", x.status(0), VALUE);
        due("listed 3 again", x.listed(0, 3), BAD);
        due("listed 8", x.listed(0, 8), OK);
        due("8 is listed", x.status(0), OK);
        due("listed outside the range", x.listed(0, 12), OK);
        x.value(0, true, 12);
        due("it must be between, too", x.status(0), VALUE);
        due("listed -1", x.listed(0, -1), OK);
        due("a fifth", x.listed(0, 5), BAD);
        due("one of the four again", x.listed(0, -1), BAD);
        x.value(0, true, 5);
        due("the fifth isn't listed", x.status(0), VALUE);
        for (int v : new int[] {3, 8}) {
            x.value(0, true, v);
            due(v + " is listed", x.status(0), OK);
        }
        for (int v : new int[] {0, Integer.MIN_VALUE, Integer.MAX_VALUE, 3}) {
            due("the list of another type is its own", x.listed(2, v), OK);
        }
    }

    private static void attribute(SchemaEditor x) {
        due("attribute of an undefined type", x.attribute(0, 0, 1, 1), BAD);
        x.simple(1, 0, 9);
        due("attribute of a SIMPLE type", x.attribute(1, 0, 1, 1), BAD);
        model(x, 0, "*a");
        x.element(0, 0);
        x.insert(0, 0, 0);
        for (int t : OUTSIDE_SIX) {
            due("t " + t, x.attribute(t, 0, 2, 1), BAD);
            due("s " + t, x.attribute(0, 0, 2, t), BAD);
        }
        for (int a : new int[] {-1, 4, 5, Integer.MIN_VALUE, Integer.MAX_VALUE}) {
            due("a " + a, x.attribute(0, a, 2, 1), BAD);
        }
        for (int use : new int[] {-1, 3, Integer.MIN_VALUE, Integer.MAX_VALUE}) {
            due("use " + use, x.attribute(0, 0, use, 1), BAD);
        }
        due("nothing is required by that", x.status(0), OK);
        for (int a = 0; a <= 3; a++) {
            attributeUses(x, a);
        }
        // The type of an attribute may be defined later, or be no SIMPLE one: then no value is of it.
        due("an undefined s", x.attribute(0, 1, 1, 4), OK);
        due("allowed and not there", x.status(0), OK);
        x.set(0, 1, true, 5);
        due("no value is of an undefined type", x.status(0), ATTRIBUTE);
        x.simple(4, 5, 5);
        due("it is defined now", x.status(0), OK);
        x.listed(4, 6);
        due("it lists another value", x.status(0), ATTRIBUTE);
        x.attribute(0, 1, 1, 0);
        due("no value is of a COMPLEX type", x.status(0), ATTRIBUTE);
        x.set(0, 1, false, 5);
        due("allowed, of a COMPLEX type, not there", x.status(0), OK);
        model(x, 2, "*a");
        x.attribute(2, 1, 2, 1);
        due("another type's attributes are its own", x.status(0), OK);
    }

    private static void attributeUses(SchemaEditor x, int a) {
        due("allowed", x.attribute(0, a, 1, 1), OK);
        due("allowed, not there", x.status(0), OK);
        x.set(0, a, true, 9);
        due("allowed, there", x.status(0), OK);
        x.set(0, a, true, 10);
        due("allowed, not of the type", x.status(0), ATTRIBUTE);
        due("required", x.attribute(0, a, 2, 1), OK);
        due("required, not of the type", x.status(0), ATTRIBUTE);
        x.set(0, a, true, 0);
        due("required, there", x.status(0), OK);
        x.set(0, a, false, 0);
        due("required, not there", x.status(0), ATTRIBUTE);
        due("absent", x.attribute(0, a, 0, 1), OK);
        due("absent, not there", x.status(0), OK);
        x.set(0, a, true, 0);
        due("absent, there", x.status(0), ATTRIBUTE);
        x.set(0, a, false, 0);
    }

    private static void element(SchemaEditor x) {
        x.insert(0, 0, 0);
        x.simple(0, 0, 9);
        model(x, 5, "*a");
        for (int n : OUTSIDE_SIX) {
            due("element(" + n + ", 5)", x.element(n, 5), BAD);
        }
        for (int t : new int[] {-2, 6, 7, Integer.MIN_VALUE, Integer.MAX_VALUE}) {
            due("element(0, " + t + ")", x.element(0, t), BAD);
        }
        due("no type by that", x.status(0), TYPELESS);
        due("element(0, 5)", x.element(0, 5), OK);
        due("COMPLEX", x.status(0), OK);
        due("a refused one changes nothing", x.element(0, 6), BAD);
        due("still COMPLEX", x.status(0), OK);
        due("element(0, 0)", x.element(0, 0), OK);
        due("SIMPLE", x.status(0), VALUE);
        due("element(0, 3)", x.element(0, 3), OK);
        due("undefined", x.status(0), TYPELESS);
        due("fitting", x.fitting(0), -1);
        due("element(0, -1)", x.element(0, -1), OK);
        due("none", x.status(0), TYPELESS);
        due("none when there was none", x.element(0, -1), OK);
        for (int n = 0; n <= 5; n++) {
            due("element(" + n + ", 5)", x.element(n, 5), OK);
            x.rename(0, n);
            due("name " + n, x.status(0), OK);
        }
    }

    private static void insert(SchemaEditor x) {
        for (int n : OUTSIDE_SIX) {
            due("a root with name " + n, x.insert(0, 0, n), BAD);
        }
        due("no root by that", x.check(2), 0);
        due("e and k aren't looked at for the root", x.insert(-5, 77, 3), 0);
        for (int n : OUTSIDE_SIX) {
            due("a child with name " + n, x.insert(0, 0, n), BAD);
        }
        for (int e : NO_ELEMENT) {
            due("a child of " + e, x.insert(e, 0, 0), BAD);
        }
        for (int k : new int[] {-1, 1, 2, Integer.MIN_VALUE, Integer.MAX_VALUE}) {
            due("child " + k, x.insert(0, k, 0), BAD);
        }
        due("no child by that", x.check(2), 1);
        due("the only child", x.insert(0, 0, 1), 1);
        due("behind it", x.insert(0, 1, 2), 2);
        due("before it", x.insert(0, 0, 3), 3);
        due("between", x.insert(0, 1, 4), 4);
        due("k above the number", x.insert(0, 5, 4), BAD);
        dueChildren(x, 0, 3, 4, 1, 2);
        due("below a child", x.insert(4, 0, 0), 5);
        dueChildren(x, 4, 5);
        x.remove(3);
        x.remove(1);
        due("the least number is used again", x.insert(4, 1, 0), 1);
        due("then the next", x.insert(0, 2, 0), 3);
        due("then a new one", x.insert(3, 0, 0), 6);
        dueChildren(x, 0, 4, 2, 3);
        dueChildren(x, 4, 5, 1);

        SchemaEditor y = new SchemaEditor();
        for (int e = 0; e < 24; e++) {
            due("insert " + e, y.insert(0, 0, 0), e);
        }
        due("there are 24", y.insert(0, 0, 0), BAD);
        due("there are 24, below another", y.insert(23, 0, 0), BAD);
        due("24 elements", y.check(2), 24);
        due("remove(17)", y.remove(17), 1);
        due("room for one", y.insert(23, 0, 0), 17);
        due("no more", y.insert(23, 0, 0), BAD);
        freshElement();
    }

    /** A number that is used again brings nothing of the old element along. */
    private static void freshElement() {
        SchemaEditor x = withRoot("*b", "b");
        x.element(1, 0);
        x.value(1, true, 5);
        for (int a = 0; a <= 3; a++) {
            x.set(1, a, true, 5);
        }
        x.insert(1, 0, 1);
        x.remove(1);
        due("the number again", x.insert(0, 0, 1), 1);
        due("it has no children, VALUE or attributes", x.status(1), OK);
        due("no child", x.child(1, 0), -1);
    }

    private static void dueChildren(SchemaEditor x, int e, int... children) {
        for (int k = 0; k < children.length; k++) {
            due("child(" + e + ", " + k + ")", x.child(e, k), children[k]);
        }
        due("child behind the last of " + e, x.child(e, children.length), -1);
    }

    private static void remove(SchemaEditor x) {
        due("without a document", x.remove(0), BAD);
        x.insert(0, 0, 0);
        for (int e : NO_ELEMENT) {
            due("remove(" + e + ")", x.remove(e), BAD);
        }
        x.insert(0, 0, 0);
        x.insert(0, 1, 0);
        x.insert(0, 2, 0);
        x.insert(2, 0, 0);
        x.insert(2, 1, 0);
        x.insert(5, 0, 0);
        due("one with three below it", x.remove(2), 4);
        dueChildren(x, 0, 1, 3);
        for (int e : new int[] {2, 4, 5, 6}) {
            due("status(" + e + ")", x.status(e), BAD);
            due("removed again", x.remove(e), BAD);
        }
        due("three are left", x.check(2), 3);
        due("a leaf", x.remove(3), 1);
        dueChildren(x, 0, 1);
        due("the root", x.remove(0), 2);
        due("none is left", x.check(2), 0);
        due("status(0)", x.status(0), BAD);
        due("a new root", x.insert(9, 9, 2), 0);
        dueChildren(x, 0);
    }

    private static void move(SchemaEditor x) {
        due("without a document", x.move(0, 0, 0), BAD);
        x.insert(0, 0, 0);
        for (int e = 1; e <= 4; e++) {
            x.insert(0, e - 1, 0);
        }
        x.insert(2, 0, 0);
        x.insert(5, 0, 0);
        dueChildren(x, 0, 1, 2, 3, 4);
        for (int e : new int[] {-1, 7, 23, 24, Integer.MIN_VALUE, Integer.MAX_VALUE}) {
            due("move(" + e + ", 0, 0)", x.move(e, 0, 0), BAD);
            due("move(1, " + e + ", 0)", x.move(1, e, 0), BAD);
        }
        due("below itself", x.move(2, 2, 0), BAD);
        due("below its child", x.move(2, 5, 0), BAD);
        due("below its child's child", x.move(2, 6, 0), BAD);
        due("the root", x.move(0, 6, 0), BAD);
        due("the root below itself", x.move(0, 0, 0), BAD);
        for (int k : new int[] {-1, 4, 5, Integer.MIN_VALUE, Integer.MAX_VALUE}) {
            due("to k " + k + " under its own parent", x.move(1, 0, k), BAD);
        }
        due("to k 2 of one that has one child", x.move(1, 2, 2), BAD);
        dueChildren(x, 0, 1, 2, 3, 4);
        due("to the end", x.move(1, 0, 3), OK);
        dueChildren(x, 0, 2, 3, 4, 1);
        due("to the front", x.move(4, 0, 0), OK);
        dueChildren(x, 0, 4, 2, 3, 1);
        due("to its own place", x.move(2, 0, 1), OK);
        dueChildren(x, 0, 4, 2, 3, 1);
        due("one on", x.move(2, 0, 2), OK);
        dueChildren(x, 0, 4, 3, 2, 1);
        due("to another parent, at its end", x.move(3, 2, 1), OK);
        dueChildren(x, 0, 4, 2, 1);
        dueChildren(x, 2, 5, 3);
        due("up, with all below it", x.move(5, 0, 3), OK);
        dueChildren(x, 0, 4, 2, 1, 5);
        dueChildren(x, 2, 3);
        dueChildren(x, 5, 6);
        due("now 2 may go below 6", x.move(2, 6, 0), OK);
        dueChildren(x, 6, 2);
        due("and 5 no longer below 3", x.move(5, 3, 0), BAD);
        due("all are still there", x.check(2), 7);
        due("5 and all below it", x.remove(5), 4);

        SchemaEditor deep = new SchemaEditor();
        for (int e = 0; e < 24; e++) {
            deep.insert(e - 1, 0, 0);
        }
        due("the root below the deepest", deep.move(0, 23, 0), BAD);
        due("the next below the deepest", deep.move(1, 23, 0), BAD);
        due("the deepest up to the root", deep.move(23, 0, 0), OK);
        dueChildren(deep, 0, 23, 1);
        due("now the next may go below it", deep.move(1, 23, 0), OK);
        dueChildren(deep, 0, 23);
    }

    private static void rename(SchemaEditor x) {
        due("without a document", x.rename(0, 0), BAD);
        x.simple(0, 0, 9);
        x.element(1, 0);
        x.insert(0, 0, 0);
        for (int e : NO_ELEMENT) {
            due("rename(" + e + ", 1)", x.rename(e, 1), BAD);
        }
        for (int n : OUTSIDE_SIX) {
            due("rename(0, " + n + ")", x.rename(0, n), BAD);
        }
        due("no new name by that", x.status(0), TYPELESS);
        due("rename(0, 1)", x.rename(0, 1), OK);
        due("the type of the new name", x.status(0), VALUE);
        SchemaEditor y = withRoot(",bc", "bb");
        y.value(2, true, 3);
        y.insert(2, 0, 5);
        due("before", y.status(0), CONTENT);
        due("rename(2, 2)", y.rename(2, 2), OK);
        due("after", y.status(0), OK);
        dueChildren(y, 2, 3);
        due("to the same name", y.rename(2, 2), OK);
        due("names 0 to 5", y.rename(2, 5), OK);
        due("names 0 to 5", y.rename(2, 0), OK);
    }

    private static void value(SchemaEditor x) {
        due("without a document", x.value(0, true, 0), BAD);
        x.simple(0, 0, 9);
        x.element(0, 0);
        x.insert(0, 0, 0);
        for (int e : NO_ELEMENT) {
            due("value(" + e + ")", x.value(e, true, 5), BAD);
        }
        due("no VALUE by that", x.status(0), VALUE);
        due("a VALUE", x.value(0, true, 5), OK);
        due("it is of the type", x.status(0), OK);
        due("another VALUE", x.value(0, true, 10), OK);
        due("it is not of the type", x.status(0), VALUE);
        due("no VALUE", x.value(0, false, 5), OK);
        due("none is not of the type", x.status(0), VALUE);
        model(x, 0, "*a");
        due("COMPLEX and none", x.status(0), OK);
        x.value(0, true, 5);
        due("COMPLEX and one", x.status(0), VALUE);
        due("none where there was one", x.value(0, false, 5), OK);
        due("none where there is none", x.value(0, false, 5), OK);
        due("COMPLEX and none again", x.status(0), OK);
    }

    private static void set(SchemaEditor x) {
        due("without a document", x.set(0, 0, true, 0), BAD);
        x.simple(1, 0, 9);
        model(x, 0, "*a");
        x.element(0, 0);
        for (int a = 0; a <= 3; a++) {
            x.attribute(0, a, 2, 1);
        }
        x.insert(0, 0, 0);
        for (int e : NO_ELEMENT) {
            due("set(" + e + ")", x.set(e, 0, true, 5), BAD);
        }
        for (int a : new int[] {-1, 4, 5, Integer.MIN_VALUE, Integer.MAX_VALUE}) {
            due("set(0, " + a + ")", x.set(0, a, true, 5), BAD);
        }
        for (int a = 0; a <= 3; a++) {
            due("one is missing still", x.status(0), ATTRIBUTE);
            due("set(0, " + a + ")", x.set(0, a, true, a), OK);
        }
        due("all are there", x.status(0), OK);
        for (int a = 0; a <= 3; a++) {
            due("another value", x.set(0, a, true, 10), OK);
            due("not of the type", x.status(0), ATTRIBUTE);
            due("none", x.set(0, a, false, 5), OK);
            due("missing", x.status(0), ATTRIBUTE);
            due("one again", x.set(0, a, true, 9), OK);
            due("there again", x.status(0), OK);
        }
        x.insert(0, 0, 0);
        due("each element has its own", x.status(1), ATTRIBUTE);
    }

    private static void status(SchemaEditor x) {
        x.insert(0, 0, 0);
        for (int e : NO_ELEMENT) {
            due("status(" + e + ")", x.status(e), BAD);
        }
        // Everything is wrong at once, and is put right in the order in which it is told.
        x.insert(0, 0, 1);
        x.value(0, true, 10);
        x.set(0, 0, true, 10);
        due("no type", x.status(0), TYPELESS);
        x.element(0, 0);
        due("undefined", x.status(0), TYPELESS);
        x.simple(0, 0, 9);
        due("SIMPLE with a child", x.status(0), CONTENT);
        x.remove(1);
        due("SIMPLE, VALUE not of the type", x.status(0), VALUE);
        x.value(0, false, 0);
        due("SIMPLE, no VALUE", x.status(0), VALUE);
        x.value(0, true, 9);
        due("SIMPLE with an attribute", x.status(0), ATTRIBUTE);
        x.set(0, 0, false, 0);
        due("SIMPLE", x.status(0), OK);
        x.set(0, 3, true, 0);
        due("SIMPLE with the last attribute", x.status(0), ATTRIBUTE);

        model(x, 0, "b");
        x.simple(1, 0, 9);
        x.attribute(0, 0, 2, 1);
        due("COMPLEX, no word", x.status(0), CONTENT);
        x.insert(0, 0, 1);
        due("COMPLEX with a VALUE", x.status(0), VALUE);
        x.value(0, false, 9);
        due("COMPLEX, one absent there, one required not", x.status(0), ATTRIBUTE);
        x.set(0, 3, false, 0);
        due("COMPLEX, one required not there", x.status(0), ATTRIBUTE);
        x.set(0, 0, true, 10);
        due("COMPLEX, one not of its type", x.status(0), ATTRIBUTE);
        x.set(0, 0, true, 0);
        due("COMPLEX", x.status(0), OK);
        due("the child's own status doesn't count for its parent", x.status(1), TYPELESS);
        model(x, 1, "*a");
        due("the attribute's type is COMPLEX now", x.status(0), ATTRIBUTE);
    }

    private static void check(SchemaEditor x) {
        for (int what : new int[] {-1, 3, 4, Integer.MIN_VALUE, Integer.MAX_VALUE}) {
            due("check(" + what + ") without a document", x.check(what), BAD);
        }
        dueCheck(x, 0, -1, 0);
        x.insert(0, 0, 0);
        dueCheck(x, 1, 0, 1);
        model(x, 0, "*|ab");
        x.element(0, 0);
        dueCheck(x, 0, -1, 1);
        x.insert(0, 0, 1);
        x.insert(0, 0, 0);
        x.insert(2, 0, 1);
        x.insert(2, 0, 1);
        // The document is 0 (2 (4 3) 1) now, and the b's have no type.
        dueCheck(x, 3, 4, 5);
        x.rename(4, 0);
        dueCheck(x, 2, 3, 5);
        x.value(2, true, 0);
        dueCheck(x, 3, 2, 5);
        x.move(1, 0, 0);
        dueCheck(x, 3, 1, 5);
        x.value(0, true, 0);
        dueCheck(x, 4, 0, 5);
        for (int what : new int[] {-1, 3, Integer.MIN_VALUE, Integer.MAX_VALUE}) {
            due("check(" + what + ")", x.check(what), BAD);
        }
        x.remove(0);
        dueCheck(x, 0, -1, 0);

        SchemaEditor deep = new SchemaEditor();
        for (int e = 0; e < 24; e++) {
            deep.insert(e - 1, 0, e == 23 ? 1 : 0);
        }
        model(deep, 0, "?|ab");
        deep.element(0, 0);
        dueCheck(deep, 1, 23, 24);
        due("all of a deep document", deep.remove(0), 24);
    }

    private static void dueCheck(SchemaEditor x, int count, int first, int all) {
        due("check(0)", x.check(0), count);
        due("check(1)", x.check(1), first);
        due("check(2)", x.check(2), all);
    }

    private static void may(SchemaEditor unused) {
        dueMay(",b,?c*d", "", 2);
        dueMay(",b,?c*d", "b", 0, 12);
        dueMay(",b,?c*d", "bd", 0, 12, 8);
        dueMay(",b,?c*d", "bcd", 0, 0, 8, 8);
        dueMay(",b,?c*d", "c", 2, 0);
        dueMay(",b,?c*d", "cb", 0, 0, 0);
        dueMay("*|a|b|c|d|ef", "af", 63, 63, 63);
        dueMay("&bc", "b", 4, 4);
        dueMay("&bc", "bc", 0, 0, 0);
        dueMay("23a", "a", 1, 1);
        dueMay("23a", "aa", 1, 1, 1);
        dueMay("23a", "aaa", 0, 0, 0, 0);
        dueMay("33a", "a", 0, 0);
        dueMay("|b,cd", "", 2);
        dueMay("|b,cd", "d", 4, 0);
        dueMay("|b,cd", "c", 0, 8);
        dueMay(".", "", 0);
        dueMay("f", "", 32);
        SchemaEditor x = withRoot("*b", "b");
        for (int k : new int[] {-1, 2, 3, Integer.MIN_VALUE, Integer.MAX_VALUE}) {
            due("may(0, " + k + ")", x.may(0, k), 0);
        }
        due("no type", x.may(1, 0), 0);
        x.element(1, 3);
        due("an undefined type", x.may(1, 0), 0);
        x.simple(3, 0, 9);
        due("a SIMPLE type", x.may(1, 0), 0);
        for (int e : new int[] {-1, 2, 23, 24, Integer.MIN_VALUE, Integer.MAX_VALUE}) {
            due("may(" + e + ", 0)", x.may(e, 0), 0);
        }
        due("nothing is put in", x.check(2), 2);
        SchemaEditor full = withRoot("*b", "bbbbbbbbbbbbbbbbbbbbbbb");
        for (int k = 0; k <= 23; k++) {
            due("may(0, " + k + ") of a full document", full.may(0, k), 2);
        }
        due("may(0, 24)", full.may(0, 24), 0);
    }

    private static void dueMay(String text, String children, int... sets) {
        SchemaEditor x = withRoot(text, children);
        for (int k = 0; k < sets.length; k++) {
            due("may(0, " + k + ") of " + children + " in " + text, x.may(0, k), sets[k]);
        }
        due("may behind the last place", x.may(0, sets.length), 0);
    }

    private static void fitting(SchemaEditor unused) {
        dueFittingMissing(",bc", "", 0, 2);
        dueFittingMissing(",bc", "b", 1, 1);
        dueFittingMissing(",bc", "bc", 2, 0);
        dueFittingMissing(",bc", "bcb", 2, -1);
        dueFittingMissing(",bc", "c", 0, -1);
        dueFittingMissing(",bc", "cbc", 0, -1);
        dueFittingMissing(",bc", "bdc", 1, -1);
        dueFittingMissing("*b", "bbcb", 2, -1);
        dueFittingMissing(".", "b", 0, -1);
        dueNoAnswer((x, e) -> x.fitting(e), "fitting");
    }

    private static void missing(SchemaEditor unused) {
        dueFittingMissing("*b", "", 0, 0);
        dueFittingMissing("+b", "", 0, 1);
        dueFittingMissing("|,b,cd,e,ff", "", 0, 3);
        dueFittingMissing("|,b,cde", "", 0, 1);
        dueFittingMissing("|e,b,cd", "b", 1, 2);
        dueFittingMissing("33 33 33 a", "", 0, 27);
        dueFittingMissing("33 33 33 a", "aaaaa", 5, 22);
        dueFittingMissing(", 33 33 33 a ,b,cd", "", 0, 30);
        dueFittingMissing("23a", "a", 1, 1);
        dueFittingMissing("23a", "aaa", 3, 0);
        dueFittingMissing("23a", "aaaa", 3, -1);
        dueFittingMissing("&bc", "c", 1, 1);
        dueFittingMissing("&b,c,de", "c", 1, 3);
        dueFittingMissing("&b,c,de", "b", 1, 3);
        dueFittingMissing("*,b,cd", "bcdb", 4, 2);
        dueFittingMissing("*,b,cd", "bcd", 3, 0);
        dueNoAnswer((x, e) -> x.missing(e), "missing");
    }

    private static void dueFittingMissing(String text, String children, int fitting, int missing) {
        SchemaEditor x = withRoot(text, children);
        due("fitting of " + children + " in " + text, x.fitting(0), fitting);
        due("missing of " + children + " in " + text, x.missing(0), missing);
    }

    private interface OfElement {
        int answer(SchemaEditor x, int e);
    }

    private static void dueNoAnswer(OfElement call, String name) {
        SchemaEditor x = withRoot("*b", "b");
        due(name + " without a type", call.answer(x, 1), -1);
        x.element(1, 3);
        due(name + " of an undefined type", call.answer(x, 1), -1);
        x.simple(3, 0, 9);
        due(name + " of a SIMPLE type", call.answer(x, 1), -1);
        for (int e : new int[] {-1, 2, 23, 24, Integer.MIN_VALUE, Integer.MAX_VALUE}) {
            due(name + "(" + e + ")", call.answer(x, e), -1);
        }
        due(name + " of the root", call.answer(x, 0), name.equals("fitting") ? 1 : 0);
    }

    private static void child(SchemaEditor x) {
        due("without a document", x.child(0, 0), -1);
        x.insert(0, 0, 0);
        due("of a leaf", x.child(0, 0), -1);
        x.insert(0, 0, 0);
        x.insert(0, 0, 0);
        x.insert(1, 0, 0);
        dueChildren(x, 0, 2, 1);
        dueChildren(x, 1, 3);
        for (int k : new int[] {-1, 2, 3, 23, 24, Integer.MIN_VALUE, Integer.MAX_VALUE}) {
            due("child(0, " + k + ")", x.child(0, k), -1);
        }
        for (int e : new int[] {-1, 4, 23, 24, Integer.MIN_VALUE, Integer.MAX_VALUE}) {
            due("child(" + e + ", 0)", x.child(e, 0), -1);
        }
        x.remove(2);
        dueChildren(x, 0, 1);
        due("child of a removed one", x.child(2, 0), -1);
        SchemaEditor full = withRoot("*b", "bbbbbbbbbbbbbbbbbbbbbbb");
        due("the last of 23", full.child(0, 22), 23);
        due("behind it", full.child(0, 23), -1);
    }

    private static void orderAndLimits(SchemaEditor x) {
        due("model(6) before an empty draft", x.model(6), BAD);
        due("model(-1) before an empty draft", x.model(-1), BAD);
        draft(x, "33 33 33 33 a");
        due("model(6) before LARGE", x.model(6), BAD);
        due("LARGE", x.model(0), LARGE);
        draft(x, "|aa");
        due("model(-1) before AMBIGUOUS", x.model(-1), BAD);
        due("no place by that", x.place(), -1);
        due("AMBIGUOUS", x.model(0), AMBIGUOUS);

        due("model", model(x, 0, "*a"), OK);
        due("simple", x.simple(1, 0, 9), OK);
        due("listed", x.listed(1, 3), OK);
        due("attribute", x.attribute(0, 0, 2, 1), OK);
        due("element", x.element(0, 0), OK);
        due("insert", x.insert(0, 0, 0), 0);
        due("set", x.set(0, 0, true, 3), OK);
        due("value", x.value(0, false, 3), OK);
        due("rename", x.rename(0, 0), OK);
        due("status", x.status(0), OK);
        // Each of these is refused, and none of them may change what is told.
        due("listed", x.listed(1, 3), BAD);
        due("attribute", x.attribute(0, 0, 3, 1), BAD);
        due("attribute", x.attribute(1, 0, 0, 1), BAD);
        due("element", x.element(0, 6), BAD);
        due("insert", x.insert(0, 1, 1), BAD);
        due("insert", x.insert(0, 0, 6), BAD);
        due("remove", x.remove(1), BAD);
        due("move", x.move(0, 0, 0), BAD);
        due("rename", x.rename(0, 6), BAD);
        due("value", x.value(1, true, 1), BAD);
        due("set", x.set(0, 4, false, 1), BAD);
        due("simple", x.simple(6, 0, 0), BAD);
        due("model", x.model(6), BAD);
        due("status", x.status(0), OK);
        dueCheck(x, 0, -1, 1);
        due("required still", x.set(0, 0, false, 3), OK);
        due("status", x.status(0), ATTRIBUTE);
        due("listed still, once", x.set(0, 0, true, 4), OK);
        due("status", x.status(0), ATTRIBUTE);
        due("room for three more", x.listed(1, 4) + x.listed(1, 5) + x.listed(1, 6), OK);
        due("and no more", x.listed(1, 7), BAD);
        due("status", x.status(0), OK);
    }
}
