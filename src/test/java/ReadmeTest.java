import java.lang.reflect.Method;
import java.nio.file.Files;
import java.nio.file.Path;
import java.util.List;
import java.util.regex.Matcher;
import java.util.regex.Pattern;
import java.util.stream.Collectors;

/** What README.md tells is so: its examples are run, and it leaves no call, refusal or test out. */
public final class ReadmeTest {
    private static final Pattern MADE = Pattern.compile("OneHandEach town = new OneHandEach\\(\\);.*");
    private static final Pattern CALLED = Pattern.compile("town\\.(\\w+)\\(([^)]*)\\); +// (-?\\d+|[A-Z]+|Long\\.MIN_VALUE): .+");
    private static final Pattern FACE = Pattern.compile("(?m)^    public (?:int|long) (\\w+)\\(([^)]*)\\)");

    public static void main(String[] args) throws Exception {
        String readme = Files.readString(Path.of("README.md"));
        Due.about("README.md");
        examples(readme);
        calls(readme);
        answersBelowZero(readme);
        tests(readme);
        Due.end();
    }

    private static void examples(String readme) throws Exception {
        Matcher block = Pattern.compile("(?s)```java\n(.*?)```").matcher(readme);
        int called = 0;
        while (block.find()) {
            OneHandEach town = null;
            for (String line : block.group(1).split("\n")) {
                if (line.isBlank()) {
                    continue;
                }
                if (MADE.matcher(line).matches()) {
                    town = new OneHandEach();
                    continue;
                }
                Matcher call = CALLED.matcher(line);
                boolean known = call.matches() && town != null;
                Due.that("a call with its answer, on an object made above: " + line, known);
                if (known) {
                    Due.due(line, answer(call.group(3)), answered(town, call.group(1), call.group(2)));
                    called++;
                }
            }
        }
        Due.that("forty calls are shown", called >= 40);
    }

    private static long answer(String told) throws Exception {
        if (told.equals("Long.MIN_VALUE")) {
            return Long.MIN_VALUE;
        }
        return Character.isUpperCase(told.charAt(0)) ? OneHandEach.class.getField(told).getInt(null) : Long.parseLong(told);
    }

    private static long answered(OneHandEach town, String name, String given) throws Exception {
        String[] texts = given.isEmpty() ? new String[0] : given.split(", ");
        for (Method method : OneHandEach.class.getMethods()) {
            if (method.getName().equals(name) && method.getParameterCount() == texts.length) {
                Object[] values = new Object[texts.length];
                for (int i = 0; i < texts.length; i++) {
                    boolean sign = texts[i].startsWith("'");
                    long value = sign ? texts[i].charAt(1) : Long.parseLong(texts[i]);
                    values[i] = method.getParameterTypes()[i] == long.class ? (Object) value : (Object) (int) value;
                }
                return ((Number) method.invoke(town, values)).longValue();
            }
        }
        throw new IllegalArgumentException("no such call: " + name + "(" + given + ")");
    }

    /** Each call of the face has a row of its own, with the names of what it takes. */
    private static void calls(String readme) throws Exception {
        Matcher face = FACE.matcher(Files.readString(Path.of("src/main/java/OneHandEach.java")));
        int calls = 0;
        while (face.find()) {
            calls++;
            String told = face.group(1) + "(" + face.group(2).replaceAll("\\b(int|long) ", "") + ")";
            Due.that("a row for " + told, readme.contains("\n| `" + told + "` | "));
        }
        Due.due("calls of the face", 38, calls);
    }

    private static void answersBelowZero(String readme) {
        String[] answers = {"`BAD` (-1)", "`NOT` (-2)", "`FULL` (-3)", "`STATE` (-5)", "`VOID` (-2000000000)",
            "`Long.MIN_VALUE`", "-11", "-12", "-13", "-14", "-100 - f"};
        for (String answer : answers) {
            Due.that("a row for " + answer, readme.contains("\n| " + answer + " | "));
        }
        Due.that("for how many calls an object is good", readme.contains("512"));
    }

    private static void tests(String readme) throws Exception {
        Due.that("how the tests are run", readme.contains("    .ci/run\n"));
        try (var files = Files.list(Path.of("src/test/java"))) {
            List<String> names = files.map(file -> file.getFileName().toString()).collect(Collectors.toList());
            for (String name : names) {
                Due.that("a word on " + name, readme.contains("`" + name.replace(".java", "") + "`"));
            }
        }
    }
}
