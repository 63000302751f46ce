import java.util.ArrayList;
import java.util.HashSet;
import java.util.List;
import java.util.Set;
import java.util.TreeSet;

/**
 * Every model of at most five tokens over the names a and b (with a few of the values of TIMES), and all rows of at
 * most three children. What is due comes from the list of the model's words up to a length, made just as the document
 * says them, without any automaton.
 */
public final class DefinitionRuns extends Runs {
    private static final int TOKENS = 5, LENGTH = 8, CHILDREN = 3;
    private static final int A = 0, B = 1, ROOT_NAME = 5;
    private static final List<String> LEAVES = List.of("a", "b", ".");
    private static final List<String> OF_ONE = List.of("?", "*", "+", "02", "12", "22", "13");
    private static final List<String> OF_TWO = List.of(",", "|", "&");

    public static void main(String[] args) {
        List<List<String>> models = new ArrayList<>();
        models.add(List.of());
        for (int tokens = 1; tokens <= TOKENS; tokens++) {
            List<String> made = modelsOf(tokens, models);
            models.add(made);
            for (String model : made) {
                sentence("the words of " + model, () -> compare(model));
            }
        }
        end();
    }

    private static List<String> modelsOf(int tokens, List<List<String>> shorter) {
        if (tokens == 1) {
            return LEAVES;
        }
        List<String> made = new ArrayList<>();
        for (String kind : OF_ONE) {
            shorter.get(tokens - 1).forEach(x -> made.add(kind + " " + x));
        }
        for (String kind : OF_TWO) {
            for (int first = 1; first < tokens - 1; first++) {
                for (String x : shorter.get(first)) {
                    shorter.get(tokens - 1 - first).forEach(y -> made.add(kind + " " + x + " " + y));
                }
            }
        }
        return made;
    }

    /** Reads a model and makes its words. A word is a row of names, each behind it the place of its NAME token. */
    private static final class Reader {
        private final String[] tokens;
        private int read = 0;

        Reader(String model) {
            tokens = model.split(" ");
        }

        Set<String> words() {
            int token = read++;
            String kind = tokens[token];
            return switch (kind) {
                case "a", "b" -> Set.of(kind + token);
                case "." -> Set.of("");
                case "," -> joined(words(), words());
                case "|" -> united(words(), words());
                case "&" -> inEitherOrder(words(), words());
                case "?" -> united(words(), Set.of(""));
                case "*" -> manyOf(words(), 0, LENGTH);
                case "+" -> manyOf(words(), 1, LENGTH);
                default -> manyOf(words(), kind.charAt(0) - '0', kind.charAt(1) - '0');
            };
        }

        int weight() {
            String kind = tokens[read++];
            return switch (kind) {
                case "a", "b" -> 1;
                case "." -> 0;
                case ",", "|" -> weight() + weight();
                case "&" -> 2 * (weight() + weight());
                case "?", "*", "+" -> weight();
                default -> (kind.charAt(1) - '0') * weight();
            };
        }
    }

    private static Set<String> joined(Set<String> heads, Set<String> tails) {
        Set<String> all = new HashSet<>();
        for (String head : heads) {
            for (String tail : tails) {
                if (head.length() + tail.length() <= 2 * LENGTH) {
                    all.add(head + tail);
                }
            }
        }
        return all;
    }

    private static Set<String> united(Set<String> some, Set<String> others) {
        Set<String> all = new HashSet<>(some);
        all.addAll(others);
        return all;
    }

    private static Set<String> inEitherOrder(Set<String> some, Set<String> others) {
        return united(joined(some, others), joined(others, some));
    }

    private static Set<String> manyOf(Set<String> one, int least, int most) {
        Set<String> all = new HashSet<>();
        Set<String> row = Set.of("");
        for (int count = 0; count <= most; count++) {
            if (count >= least) {
                all.addAll(row);
            }
            row = joined(row, one);
        }
        return all;
    }

    private static String namesOf(String word) {
        return word.replaceAll("[0-9]", "");
    }

    /** The tokens that are one of two from which the same name comes behind the same beginning. */
    private static TreeSet<Integer> tokensInDoubt(Set<String> words) {
        Set<String> seen = new HashSet<>();
        for (String word : words) {
            for (int i = 0; i < word.length(); i += 2) {
                seen.add(namesOf(word.substring(0, i + 2)) + word.charAt(i + 1));
            }
        }
        TreeSet<Integer> found = new TreeSet<>();
        for (String one : seen) {
            String names = namesOf(one);
            for (int other = 0; other < TOKENS; other++) {
                if (!one.endsWith("" + other) && seen.contains(names + other)) {
                    found.add(other);
                }
            }
        }
        return found;
    }

    private static void compare(String model) {
        Editor x = new Editor();
        int answer = x.model(0, model);
        if (new Reader(model).weight() > 30) {
            due(LARGE, answer);
            return;
        }
        Set<String> words = new Reader(model).words();
        // Some models have only words that are longer than those listed.
        if (words.isEmpty()) {
            return;
        }
        TreeSet<Integer> doubt = tokensInDoubt(words);
        due(doubt.isEmpty() ? OK : AMBIGUOUS, answer);
        due(doubt.isEmpty() ? -1 : doubt.first(), x.place());
        if (answer == OK) {
            Set<String> names = new HashSet<>();
            words.forEach(word -> names.add(namesOf(word)));
            compareRows(x, names);
        }
    }

    private static void compareRows(Editor x, Set<String> words) {
        due(OK, x.element(ROOT_NAME, 0));
        List<String> rows = List.of("");
        for (int count = 0; count <= CHILDREN; count++) {
            List<String> longer = new ArrayList<>();
            for (String row : rows) {
                x.insert(0, 0, ROOT_NAME);
                for (int k = 0; k < count; k++) {
                    x.insert(0, k, row.charAt(k) - 'a');
                }
                compareRow(x, row, words);
                due(count + 1, x.remove(0));
                longer.add(row + "a");
                longer.add(row + "b");
            }
            rows = longer;
        }
    }

    private static void compareRow(Editor x, String row, Set<String> words) {
        due(words.contains(row) ? OK : CONTENT, x.status(0));
        due(fitting(row, words), x.fitting(0));
        int missing = words.stream().filter(w -> w.startsWith(row)).mapToInt(w -> w.length() - row.length()).min().orElse(-1);
        int answer = x.missing(0);
        // What is missing may lead beyond the words that are listed.
        if (missing >= 0 || row.length() + answer <= LENGTH) {
            due(missing, answer);
        }
        for (int k = 0; k <= row.length(); k++) {
            String before = row.substring(0, k);
            String behind = row.substring(k);
            int may = (words.contains(before + "a" + behind) ? 1 << A : 0) | (words.contains(before + "b" + behind) ? 1 << B : 0);
            due(may, x.may(0, k));
        }
    }

    private static int fitting(String row, Set<String> words) {
        int most = 0;
        for (int count = 1; count <= row.length(); count++) {
            String beginning = row.substring(0, count);
            if (words.stream().anyMatch(w -> w.startsWith(beginning))) {
                most = count;
            }
        }
        return most;
    }
}
