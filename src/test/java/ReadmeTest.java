import java.io.IOException;
import java.lang.reflect.Field;
import java.lang.reflect.Method;
import java.lang.reflect.Modifier;
import java.nio.file.Files;
import java.nio.file.Path;

/** README.md: its example answers as it says, and its tables name every call and every refusal. */
public final class ReadmeTest {
    private static final Check CHECK = new Check();

    private final String readme;

    private ReadmeTest(String readme) {
        this.readme = readme;
    }

    public static void main(String[] args) throws IOException, IllegalAccessException {
        ReadmeTest test = new ReadmeTest(Files.readString(Path.of("README.md")));
        test.example();
        test.calls();
        test.refusals();
        CHECK.end();
    }

    private void example() {
        LeftNumbers x = new LeftNumbers();
        int third = x.ratio(1, 3);
        says("int third = x.ratio(1, 3);", third);
        says("x.figure(third, 0);", x.figure(third, 0));
        CHECK.due("figure 1 of 1 / 3", x.figure(third, 1), 3);
        CHECK.due("figure 2 of 1 / 3", x.figure(third, 2), 1);
        int eight = x.shadow(third, 8);
        says("int eight = x.shadow(third, 8);", eight);
        int back = x.guess(eight, 100);
        says("int back = x.guess(eight, 100);", back);
        CHECK.due("up of what is guessed", x.part(back, 0), 1);
        CHECK.due("low of what is guessed", x.part(back, 1), 3);
        says("x.coefficient(2, 1);", x.coefficient(2, 1));
        says("x.coefficient(0, 1);", x.coefficient(0, 1));
        int root = x.root(2, 10);
        says("int root = x.root(2, 10);", root);
        says("x.told(root);", x.told(root));
        says("x.at(root);", x.at(root));
        says("x.sure(4);", x.sure(4));
        says("x.lift(4);", x.lift(4));
    }

    /** A line of the example, with the answer as the first behind its //. */
    private void says(String code, long answer) {
        for (String line : readme.split("\n")) {
            if (line.startsWith(code)) {
                String told = line.substring(code.length()).replaceAll("^ *// (-?[0-9]+).*$", "$1");
                CHECK.holds(code + " answers " + answer + ", README.md has " + told, told.equals(Long.toString(answer)));
                return;
            }
        }
        CHECK.holds(code + " stands in README.md", false);
    }

    private void calls() {
        for (Method method : LeftNumbers.class.getDeclaredMethods()) {
            if (Modifier.isPublic(method.getModifiers())) {
                CHECK.holds(method.getName() + " has a row", hasRowWith("`" + method.getName() + "("));
            }
        }
    }

    private void refusals() throws IllegalAccessException {
        for (Field field : LeftNumbers.class.getDeclaredFields()) {
            if (Modifier.isPublic(field.getModifiers())) {
                String row = "| `" + field.getName() + "` " + field.getInt(null) + " |";
                CHECK.holds(row + " stands in README.md", hasRowWith(row));
            }
        }
    }

    private boolean hasRowWith(String text) {
        for (String line : readme.split("\n")) {
            if (line.startsWith("|") && line.contains(text)) {
                return true;
            }
        }
        return false;
    }
}
