import java.lang.reflect.Constructor;
import java.lang.reflect.Field;
import java.lang.reflect.Method;
import java.lang.reflect.Modifier;
import java.nio.file.Files;
import java.nio.file.Path;
import java.util.Arrays;
import java.util.Set;
import java.util.TreeSet;
import java.util.regex.Matcher;
import java.util.regex.Pattern;

/** The face is the document's, and the file keeps to what can be seen of ../shared/LANGUAGE.md. */
public final class FaceTest {
    private static final String[] METHODS = {
        "int mend(int,int,int)", "int of(int,int)", "int shown(int,int,int)", "int feed(int)", "int law()",
        "int weight(int)", "int sight(int,int)", "int sights(int,int,int)", "int forget()", "int fits(int)",
        "int chance(int,int)", "int likely()", "int tells(int)", "int next(int,int)", "int lot(int,int,int)",
        "int gun(int,int)", "int guess(int,int)", "int liars(int)", "int agree(int,int,int)",
        "int meet(int,int,int)", "int round(int,int)", "int set(int,int)", "int led(int,int)", "int judge(int)",
        "int image()", "int back()", "int undo()", "int redo()", "int body(int)", "int act(int,int,int)",
        "int trace(int)", "int keep(int,int)", "int row(int,int,int)", "int put(int,int,long)",
        "long element(int,int)", "int shift(int,int,int,int,int)", "int taken(int,int)", "int count(int)"};

    public static void main(String[] args) throws Exception {
        Due.about("face");
        Class<?> face = OneHandEach.class;
        Due.that("the class is public and final", face.getModifiers() == (Modifier.PUBLIC | Modifier.FINAL));
        methods(face);
        fields(face);
        for (Class<?> inside : face.getDeclaredClasses()) {
            Due.that(inside + " is static", Modifier.isStatic(inside.getModifiers()));
            Due.that(inside + " is private or package-visible",
                (inside.getModifiers() & (Modifier.PUBLIC | Modifier.PROTECTED)) == 0);
            Due.that(inside + " has some twenty fields", inside.getDeclaredFields().length <= 22);
        }
        Due.that("some twelve classes", face.getDeclaredClasses().length <= 12);
        words();
        Due.end();
    }

    private static void methods(Class<?> face) {
        Set<String> publics = new TreeSet<>();
        Set<String> names = new TreeSet<>();
        for (Method method : face.getDeclaredMethods()) {
            if (Modifier.isPublic(method.getModifiers())) {
                StringBuilder told = new StringBuilder();
                for (Class<?> type : method.getParameterTypes()) {
                    told.append(told.length() == 0 ? "" : ",").append(type.getName());
                }
                publics.add(method.getReturnType().getName() + " " + method.getName() + "(" + told + ")");
                names.add(method.getName());
            }
        }
        Due.that("the public methods are " + publics, publics.equals(new TreeSet<>(Arrays.asList(METHODS))));
        for (Method method : face.getDeclaredMethods()) {
            if (!Modifier.isPublic(method.getModifiers())) {
                Due.that(method + " is private", Modifier.isPrivate(method.getModifiers()));
                Due.that(method + " has a name of its own", !names.contains(method.getName()));
            }
        }
        for (Class<?> inside : face.getDeclaredClasses()) {
            for (Method method : inside.getDeclaredMethods()) {
                Due.that(method + " has a name of its own", !names.contains(method.getName()));
                Due.that(method + " takes seven at most", method.getParameterCount() <= 7);
            }
        }
        Constructor<?>[] made = face.getDeclaredConstructors();
        Due.that("one public constructor", made.length == 1 && Modifier.isPublic(made[0].getModifiers())
            && made[0].getParameterCount() == 0);
    }

    private static void fields(Class<?> face) throws Exception {
        Set<String> publics = new TreeSet<>();
        int others = 0;
        for (Field field : face.getDeclaredFields()) {
            int modifiers = field.getModifiers();
            if (Modifier.isPublic(modifiers)) {
                publics.add(field.getName() + "=" + field.get(null));
                Due.that(field + " is a constant", Modifier.isStatic(modifiers) && Modifier.isFinal(modifiers));
            } else {
                Due.that(field + " is private", Modifier.isPrivate(modifiers));
                Due.that(field + " is final if it is static", !Modifier.isStatic(modifiers) || Modifier.isFinal(modifiers));
                others += Modifier.isStatic(modifiers) ? 0 : 1;
            }
        }
        Due.that("the constants are " + publics, publics.equals(new TreeSet<>(Arrays.asList(
            "BAD=-1", "NOT=-2", "FULL=-3", "STATE=-5", "VOID=-2000000000"))));
        Due.that("some twenty fields", others <= 20);
    }

    private static void words() throws Exception {
        String code = Files.readString(Path.of("src/main/java/OneHandEach.java"))
            .replaceAll("(?s)/\\*.*?\\*/", " ").replaceAll("//[^\n]*", " ").replaceAll("'.'", "0");
        for (String word : new String[] {"throw", "throws", "try", "catch", "synchronized", "assert", "import",
            "package", "instanceof", "Object", "equals", "hashCode", "toString", "System\\.(?!arraycopy)\\w+",
            "Random", "Thread", "yield", "var", "while", "transient", "volatile", "native", "\\w+Exact"}) {
            Due.that("no " + word, !Pattern.compile("\\b" + word + "\\b").matcher(code).find());
        }
        Due.that("no lambda, no method reference", !code.contains("->") && !code.contains("::"));
        Matcher made = Pattern.compile("(?m)^    +\\S.*\\bnew (\\w+)").matcher(code);
        while (made.find()) {
            int line = made.start();
            String ahead = code.substring(0, line);
            int constructor = lastOf(ahead, "\n    +(public )?[A-Z]\\w*\\([^)]*\\) \\{");
            int method = lastOf(ahead, "\n    +(?!public [A-Z])(\\w[\\w\\[\\]]* )+\\w+\\([^)]*\\) \\{");
            Due.that("new " + made.group(1) + " stands in a constructor", constructor > method);
        }
    }

    private static int lastOf(String text, String pattern) {
        Matcher found = Pattern.compile(pattern).matcher(text);
        int last = -1;
        while (found.find()) {
            last = found.start();
        }
        return last;
    }
}
