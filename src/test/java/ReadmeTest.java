import java.lang.reflect.InvocationTargetException;
import java.lang.reflect.Method;
import java.nio.file.Files;
import java.nio.file.Path;
import java.util.ArrayList;
import java.util.List;
import java.util.regex.Matcher;
import java.util.regex.Pattern;

/** README.md tells the truth: each call of its examples answers as it says, and its helper is the one here. */
public final class ReadmeTest {
    private static final String MADE = "ChestOfLetters chest = new ChestOfLetters();";
    private static final Pattern TOLD = Pattern.compile("tell\\(chest, \"(.*)\"\\);");
    private static final Pattern CALLED = Pattern.compile("chest\\.(\\w+)\\(([-0-9, ]*)\\); +// "
        + "(-?\\d+|true|false)(?:, row((?: -?\\d+)+))?.*");
    private static final Check CHECK = new Check("ReadmeTest");

    private ReadmeTest() {
    }

    public static void main(String[] args) throws Exception {
        String readme = Files.readString(Path.of("README.md"));
        int blocks = 0;
        for (String part : readme.split("```java\n")) {
            if (part.startsWith("static void tell(")) {
                helper(part.substring(0, part.indexOf("```")));
                blocks++;
            } else if (part.startsWith(MADE)) {
                example(part.substring(0, part.indexOf("```")));
                blocks++;
            }
        }
        CHECK.due("blocks of code", blocks, readme.split("```java\n", -1).length - 1);
        CHECK.due("blocks of code, at least", blocks >= 3, true);
        CHECK.end();
    }

    private static void helper(String code) throws Exception {
        String own = Files.readString(Path.of("src/test/java/ReadmeTest.java"));
        CHECK.due("the helper is tried here", own.contains(code.indent(4)), true);
    }

    private static void example(String code) throws Exception {
        ChestOfLetters chest = new ChestOfLetters();
        for (String line : code.split("\n")) {
            Matcher told = TOLD.matcher(line);
            Matcher called = CALLED.matcher(line);
            if (told.matches()) {
                tell(chest, told.group(1));
            } else if (called.matches()) {
                call(chest, line, called);
            } else {
                CHECK.due("a line that can't be tried: " + line, line, MADE);
            }
        }
    }

    private static void call(ChestOfLetters chest, String line, Matcher called) throws Exception {
        List<Object> numbers = new ArrayList<>();
        for (String number : called.group(2).split("[, ]+")) {
            if (!number.isEmpty()) {
                numbers.add(Integer.valueOf(number));
            }
        }
        CHECK.due(line, "" + answer(chest, called.group(1), numbers), called.group(3));
        if (called.group(4) != null) {
            List<String> due = List.of(called.group(4).trim().split(" "));
            CHECK.due(line, Talk.row(chest).toString(), due.toString());
        }
    }

    private static Object answer(ChestOfLetters chest, String name, List<Object> numbers) throws Exception {
        for (Method method : ChestOfLetters.class.getMethods()) {
            if (method.getName().equals(name) && method.getParameterCount() == numbers.size()) {
                try {
                    return method.invoke(chest, numbers.toArray());
                } catch (InvocationTargetException e) {
                    return e.getCause();
                }
            }
        }
        return "no such call";
    }

    static void tell(ChestOfLetters chest, String text) {
        chest.end(0);
        for (int i = 0; i < text.length(); i += 4) {
            int four = 0;
            for (int j = i; j < i + 4; j++) {
                four = four << 8 | (j < text.length() ? text.charAt(j) : 0);
            }
            chest.sign(four);
        }
        chest.end(text.length());
    }
}
