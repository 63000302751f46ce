import java.io.IOException;
import java.nio.file.Files;
import java.nio.file.Path;

/** The example of README.md: each of its calls stands there, in this order, and is answered as it says. */
public final class ReadmeRuns extends Runs {
    private static String unread = "";

    public static void main(String[] args) throws IOException {
        String readme = Files.readString(Path.of("README.md"));
        int begin = readme.indexOf("```java") + "```java".length();
        unread = readme.substring(begin, readme.indexOf("```", begin));
        sentence("the example of README.md", ReadmeRuns::example);
        end();
    }

    private static void example() {
        SchemaEditor x = new SchemaEditor();
        line("x.token(1, 0);", 1, x.token(1, 0) ? 1 : 0);
        line("x.token(0, 1);", 1, x.token(0, 1) ? 1 : 0);
        line("x.token(3, 0);", 1, x.token(3, 0) ? 1 : 0);
        line("x.token(0, 2);", 1, x.token(0, 2) ? 1 : 0);
        line("x.model(0);", SchemaEditor.OK, x.model(0));
        line("x.simple(1, 0, 9);", SchemaEditor.OK, x.simple(1, 0, 9));
        line("x.attribute(0, 3, 2, 1);", SchemaEditor.OK, x.attribute(0, 3, 2, 1));
        line("x.element(0, 0);", SchemaEditor.OK, x.element(0, 0));
        line("x.element(1, 1);", SchemaEditor.OK, x.element(1, 1));
        int root = x.insert(0, 0, 0);
        line("int root = x.insert(0, 0, 0);", 0, root);
        line("x.missing(root);", 1, x.missing(root));
        line("x.may(root, 0);", 2, x.may(root, 0));
        int first = x.insert(root, 0, 1);
        line("int first = x.insert(root, 0, 1);", 1, first);
        line("x.value(first, true, 5);", SchemaEditor.OK, x.value(first, true, 5));
        line("x.status(root);", SchemaEditor.ATTRIBUTE, x.status(root));
        line("x.set(root, 3, true, 7);", SchemaEditor.OK, x.set(root, 3, true, 7));
        line("x.check(0);", 0, x.check(0));
        if (unread.contains("x.")) {
            tell("more calls than this test makes:" + unread);
        }
    }

    private static void line(String call, int want, int got) {
        latestCall = call;
        due(want, got);
        int at = unread.indexOf(call);
        if (at < 0) {
            tell(call + " is not the next call");
        } else {
            unread = unread.substring(at + call.length());
        }
    }
}
