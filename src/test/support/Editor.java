import java.util.ArrayList;
import java.util.List;

/** An editor that writes down its calls, and takes no more of them than the document allows. */
final class Editor {
    static final int CALLS = 512;

    private final SchemaEditor held = new SchemaEditor();
    private final List<String> told = new ArrayList<>();

    /** The calls from this one on, each with its answer. */
    List<String> toldFrom(int begin) {
        return List.copyOf(told.subList(begin, told.size()));
    }

    int calls() {
        return told.size();
    }

    private int tell(String call, int answer) {
        told.add(call + " = " + answer);
        Runs.latestCall = call;
        if (told.size() > CALLS) {
            throw new IllegalStateException("the test makes more than " + CALLS + " calls on one object");
        }
        return answer;
    }

    boolean token(int kind, int value) {
        return tell("token(" + kind + ", " + value + ")", held.token(kind, value) ? 1 : 0) == 1;
    }

    int model(int t) {
        return tell("model(" + t + ")", held.model(t));
    }

    int place() {
        return tell("place()", held.place());
    }

    int simple(int t, int least, int greatest) {
        return tell("simple(" + t + ", " + least + ", " + greatest + ")", held.simple(t, least, greatest));
    }

    int listed(int t, int v) {
        return tell("listed(" + t + ", " + v + ")", held.listed(t, v));
    }

    int attribute(int t, int a, int use, int s) {
        return tell("attribute(" + t + ", " + a + ", " + use + ", " + s + ")", held.attribute(t, a, use, s));
    }

    int element(int n, int t) {
        return tell("element(" + n + ", " + t + ")", held.element(n, t));
    }

    int insert(int e, int k, int n) {
        return tell("insert(" + e + ", " + k + ", " + n + ")", held.insert(e, k, n));
    }

    int remove(int e) {
        return tell("remove(" + e + ")", held.remove(e));
    }

    int move(int e, int p, int k) {
        return tell("move(" + e + ", " + p + ", " + k + ")", held.move(e, p, k));
    }

    int rename(int e, int n) {
        return tell("rename(" + e + ", " + n + ")", held.rename(e, n));
    }

    int value(int e, boolean has, int v) {
        return tell("value(" + e + ", " + has + ", " + v + ")", held.value(e, has, v));
    }

    int set(int e, int a, boolean has, int v) {
        return tell("set(" + e + ", " + a + ", " + has + ", " + v + ")", held.set(e, a, has, v));
    }

    int status(int e) {
        return tell("status(" + e + ")", held.status(e));
    }

    int check(int what) {
        return tell("check(" + what + ")", held.check(what));
    }

    int may(int e, int k) {
        return tell("may(" + e + ", " + k + ")", held.may(e, k));
    }

    int fitting(int e) {
        return tell("fitting(" + e + ")", held.fitting(e));
    }

    int missing(int e) {
        return tell("missing(" + e + ")", held.missing(e));
    }

    int child(int e, int k) {
        return tell("child(" + e + ", " + k + ")", held.child(e, k));
    }

    /**
     * Drafts a model: letters a to f are the names 0 to 5; then , SEQ | CHOICE ? OPTION * STAR + PLUS . NOTHING
     * and & BOTH; two digits are TIMES with its min and max. Blanks are passed over.
     */
    Editor draft(String text) {
        String signs = ",|?*+.&";
        for (int i = 0; i < text.length(); i++) {
            char c = text.charAt(i);
            if (c >= 'a' && c <= 'f') {
                Runs.due(true, token(0, c - 'a'));
            } else if (c >= '0' && c <= '3') {
                i++;
                Runs.due(true, token(8, 4 * (c - '0') + text.charAt(i) - '0'));
            } else if (c != ' ') {
                Runs.due(true, token(1 + signs.indexOf(c), 0));
            }
        }
        return this;
    }

    int model(int t, String text) {
        draft(text);
        int answer = model(t);
        Runs.latestCall += " of " + text;
        return answer;
    }

    /** Appends children of these names, each told by its letter. */
    Editor append(int e, String names) {
        int count = 0;
        while (child(e, count) >= 0) {
            count++;
        }
        for (int i = 0; i < names.length(); i++) {
            insert(e, count + i, names.charAt(i) - 'a');
        }
        return this;
    }
}
