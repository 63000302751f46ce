import java.util.Arrays;

/** What the boundary tests share: the answers that are not as due are told and counted. */
abstract class Runs {
    static final int OK = 0, TYPELESS = 1, CONTENT = 2, VALUE = 3, ATTRIBUTE = 4, SYNTAX = 5, LARGE = 6, AMBIGUOUS = 7, BAD = -1;
    static final int LEAST = Integer.MIN_VALUE, GREATEST = Integer.MAX_VALUE;

    static String latestCall = "";
    private static String sentence = "";
    private static int wrong = 0;

    /** Runs the test of one sentence; the words of the document that it quotes stand between quotes. */
    static void sentence(String words, Runnable test) {
        sentence = words;
        test.run();
    }

    static void due(int want, int got) {
        if (want != got) {
            tell(latestCall + " answered " + got + ", due is " + want);
        }
    }

    static void due(boolean want, boolean got) {
        due(want ? 1 : 0, got ? 1 : 0);
    }

    static void tell(String fault) {
        wrong++;
        System.out.println(sentence + ": " + fault);
    }

    static void end() {
        System.out.println(wrong == 0 ? "all answers are as due" : wrong + " answers are not as due");
        if (wrong != 0) {
            System.exit(1);
        }
    }

    /** Ints below least and above greatest: the nearest, the farthest, and some that are inside once bits are cut off. */
    static int[] outside(int least, int greatest) {
        int[] all = {
            least - 1, least - 2, greatest + 1, greatest + 2, LEAST, LEAST + 1, LEAST + least + 2, GREATEST, GREATEST - 1,
            least + 256, greatest - 256, least + 65536, greatest - 65536, least + (1 << 30), greatest - (1 << 30), ~greatest - 1,
        };
        return Arrays.stream(all).filter(i -> i < least || i > greatest).distinct().toArray();
    }

    /** An editor whose root has name 0, of type 0 with this model, and children of these names. */
    static Editor rooted(String model, String children) {
        Editor x = new Editor();
        due(OK, x.model(0, model));
        due(OK, x.element(0, 0));
        due(0, x.insert(0, 0, 0));
        return x.append(0, children);
    }

    /** These rows of names, parted by blanks, are words of the model; - is the empty row. */
    static void words(String model, String rows) {
        statusOfRows(model, rows, OK);
    }

    static void noWords(String model, String rows) {
        statusOfRows(model, rows, CONTENT);
    }

    private static void statusOfRows(String model, String rows, int status) {
        for (String row : rows.split(" ")) {
            Editor x = rooted(model, row.equals("-") ? "" : row);
            int got = x.status(0);
            latestCall += " of " + row + " in " + model;
            due(status, got);
        }
    }

    static void children(Editor x, int e, int... numbers) {
        for (int k = 0; k < numbers.length; k++) {
            due(numbers[k], x.child(e, k));
        }
        due(-1, x.child(e, numbers.length));
    }

    /** A document of 24 elements, all children of the root but the root itself. */
    static Editor full() {
        Editor x = new Editor();
        for (int e = 0; e < 24; e++) {
            due(e, x.insert(0, 0, e % 6));
        }
        return x;
    }

    /** A document of 24 elements, each the only child of the one before. */
    static Editor deep() {
        Editor x = new Editor();
        for (int e = 0; e < 24; e++) {
            due(e, x.insert(e - 1, 0, 0));
        }
        return x;
    }
}
