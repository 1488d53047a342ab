import java.lang.reflect.Method;
import java.util.ArrayList;
import java.util.Arrays;
import java.util.List;
import java.util.Random;

/** Runs of drawn calls, each answered by OneHandEach as by Model; and texts, most of them with a fault. */
public final class ModelTest {
    private static final long SEED = 20261118;

    public static void main(String[] args) throws Exception {
        int runs = args.length > 0 ? Integer.parseInt(args[0]) : 120;
        for (int run = 0; run < runs; run++) {
            Due.about("run " + run);
            calls(new Random(SEED + run), run % 5 == 0 ? null : run % 4);
        }
        Due.about("texts");
        texts(new Random(SEED), 400 * runs);
        Due.end();
    }

    /** favoured: which quarter of the calls comes most; null: all come alike. */
    private static void calls(Random random, Integer favoured) throws Exception {
        OneHandEach real = new OneHandEach();
        Model model = new Model();
        List<Method> methods = new ArrayList<>();
        for (Method method : OneHandEach.class.getDeclaredMethods()) {
            if (java.lang.reflect.Modifier.isPublic(method.getModifiers())) {
                methods.add(method);
            }
        }
        methods.sort((a, b) -> a.getName().compareTo(b.getName()));
        StringBuilder log = new StringBuilder();
        for (int i = 0; i < 512; i++) {
            Method method = methods.get(random.nextInt(methods.size()));
            for (int k = 0; k < 3 && favoured != null && group(method.getName()) != favoured; k++) {
                method = methods.get(random.nextInt(methods.size()));
            }
            if (method.getName().equals("law") && random.nextInt(3) != 0) {
                i += fed(real, model, text(random), 510 - i);
            }
            Object[] given = given(random, method);
            if (method.getName().equals("liars") && random.nextInt(4) != 0) {
                continue;
            }
            String call = method.getName() + Arrays.toString(given);
            Object got = method.invoke(real, given);
            Object want = Model.class.getDeclaredMethod(method.getName(), method.getParameterTypes()).invoke(model, given);
            log.append(call).append('=').append(want).append(' ');
            Due.due(call + " as call " + i, ((Number) want).longValue(), ((Number) got).longValue());
            if (!want.equals(got)) {
                System.out.println(log);
                return;
            }
        }
    }

    private static int group(String name) {
        if (List.of("mend", "of", "shown", "feed", "law", "weight", "undo", "redo").contains(name)) return 0;
        if (List.of("sight", "sights", "forget", "fits", "chance", "likely", "tells", "next", "lot").contains(name)) return 1;
        if (List.of("gun", "guess", "liars", "agree", "meet", "round", "set", "led", "judge", "image", "back").contains(name)) {
            return 2;
        }
        return 3;
    }

    private static int fed(OneHandEach real, Model model, String text, int most) {
        int fed = Math.max(0, Math.min(text.length(), most));
        for (int i = 0; i < fed; i++) {
            Due.due("feed", model.feed(text.charAt(i)), real.feed(text.charAt(i)));
        }
        return fed;
    }

    private static Object[] given(Random random, Method method) {
        Class<?>[] types = method.getParameterTypes();
        Object[] given = new Object[types.length];
        for (int i = 0; i < given.length; i++) {
            int usual = usual(random, method.getName(), i);
            int any = random.nextInt(40) == 0 ? wild(random) : usual;
            given[i] = types[i] == long.class ? (Object) element(random, any) : (Object) any;
        }
        if (method.getName().equals("mend") && random.nextInt(3) != 0) {
            int what = (Integer) given[1];
            int[] least = {-361, -10, -1, -1, -1}, most = {360, 10, 10, 30, 100};
            if (what >= 0 && what < 5) {
                given[0] = what < 2 ? random.nextInt(2) : 0;
                given[2] = least[what] + random.nextInt(most[what] - least[what] + 1);
            }
        }
        return given;
    }

    private static long element(Random random, int any) {
        switch (random.nextInt(4)) {
            case 0: return random.nextLong();
            case 1: return any;
            case 2: return random.nextInt(100);
            default: return random.nextInt(3);
        }
    }

    private static int wild(Random random) {
        int[] edges = {Integer.MIN_VALUE, Integer.MAX_VALUE, -1, -2, 60, 61, 100, 720, 100000, -2000000000};
        return random.nextBoolean() ? edges[random.nextInt(edges.length)] : random.nextInt();
    }

    private static int usual(Random random, String name, int i) {
        int shelf = random.nextInt(60) == 0 ? 6 : random.nextInt(3);
        switch (name + i) {
            case "mend0": case "shown0": case "guess0": case "liars0": case "round0": case "set0": case "led0":
                return random.nextInt(50) == 0 ? 2 : random.nextInt(2);
            case "mend1": return random.nextInt(50) == 0 ? 5 : random.nextInt(5);
            case "mend2": return random.nextInt(30) - 10;
            case "of0": return random.nextInt(4);
            case "of1": return random.nextInt(25);
            case "shown1": case "meet0": case "set1": return random.nextInt(random.nextBoolean() ? 1000 : 100000);
            case "feed0": return "thmse0123456789+-*/%<=>&|!();?".charAt(random.nextInt(30));
            case "weight0": return random.nextInt(720);
            case "sight0": return random.nextInt(2) * 100 + random.nextInt(random.nextInt(20) == 0 ? 61 : 60);
            case "sight1": {
                int from = random.nextInt(80);
                return from * 100 + from + random.nextInt(random.nextInt(20) == 0 ? 100 : 20);
            }
            case "sights0": case "judge0": case "keep0": case "row0": case "put0": case "element0": case "shift0":
            case "shift2": case "taken0":
                return shelf;
            case "sights1": case "put1": case "element1": case "shift1": case "shift3":
                return random.nextInt(random.nextInt(3) == 0 ? 62 : 8) - 1;
            case "sights2": return random.nextInt(10);
            case "shift4": return random.nextInt(8) - 1;
            case "fits0": return random.nextInt(3) == 0 ? -1 : random.nextInt(40);
            case "chance0": return random.nextInt(600) * 1000 + random.nextInt(720);
            case "tells0": return random.nextInt(5);
            case "next0": return random.nextInt(100);
            case "lot0": return random.nextInt();
            case "lot1": return 1 + random.nextInt(random.nextInt(8) == 0 ? 21 : 4);
            case "gun0": return random.nextInt(2) * 100 + random.nextInt(random.nextBoolean() ? 4 : 41);
            case "gun1": return random.nextInt(4) == 0 ? random.nextInt(60) : random.nextInt(12);
            case "guess1": return random.nextInt(7);
            case "agree0": return random.nextInt(20000);
            case "agree1": return random.nextInt(21000);
            case "meet1": return random.nextInt(60) * 100 + random.nextInt(60);
            case "meet2": return random.nextInt(3);
            case "round1": return random.nextInt(62);
            case "body0": case "taken1": return random.nextInt(8);
            case "act0": case "keep1": return random.nextInt(7) - 1;
            case "act1": return random.nextInt(4);
            case "act2": return random.nextBoolean() ? random.nextInt() : random.nextInt(20);
            case "trace0": return random.nextInt(10);
            case "row1": return random.nextInt(3) == 0 ? random.nextInt(5) : random.nextInt(2);
            case "row2": return random.nextInt(62) - 1;
            case "count0": return random.nextInt(6);
            default: return random.nextInt(2);
        }
    }

    private static void texts(Random random, int many) {
        int laws = 0;
        for (int i = 0; i < many; i++) {
            OneHandEach real = new OneHandEach();
            Model model = new Model();
            String text = text(random);
            fed(real, model, text, 200);
            int fault = model.law();
            Due.due("law " + text, fault, real.law());
            laws += fault == 1 ? 1 : 0;
            for (int k = 0; k < 3; k++) {
                int time = random.nextInt(720);
                Due.due(text + " of " + time, model.weight(time), real.weight(time));
            }
        }
        Due.that("many texts without a fault", laws > many / 5);
    }

    /** A text of the grammar, more or less; at times with a byte changed, lost, or come in between. */
    private static String text(Random random) {
        StringBuilder text = new StringBuilder();
        int lines = 1 + random.nextInt(3);
        for (int i = 0; i < lines; i++) {
            text.append(i > 0 ? ";" : "");
            grow(text, random, 1 + random.nextInt(4));
            if (random.nextInt(2) == 0) {
                text.append('?');
                grow(text, random, 1 + random.nextInt(3));
            }
        }
        String signs = "thmse019+-*/%<=>&|!();? x";
        if (random.nextInt(3) == 0) {
            int at = random.nextInt(text.length());
            char sign = random.nextInt(20) == 0 ? (char) random.nextInt(256) : signs.charAt(random.nextInt(signs.length()));
            switch (random.nextInt(4)) {
                case 0: text.setCharAt(at, sign); break;
                case 1: text.deleteCharAt(at); break;
                case 2: text.insert(at, sign); break;
                default: text.setLength(at); break;
            }
        }
        return text.toString();
    }

    private static void grow(StringBuilder text, Random random, int deep) {
        String joins = "+-*/%<=>&|+-*";
        int operands = 1 + random.nextInt(deep > 0 ? 3 : 1);
        for (int i = 0; i < operands; i++) {
            if (i > 0) {
                text.append(joins.charAt(random.nextInt(joins.length())));
            }
            int way = random.nextInt(10);
            for (int k = 0; k < 3 && random.nextInt(4) == 0; k++) {
                text.append(random.nextBoolean() ? '!' : '-');
            }
            if (deep > 0 && way < 3) {
                text.append('(');
                grow(text, random, deep - 1);
                text.append(')');
            } else if (way < 7) {
                text.append("thmse".charAt(random.nextInt(5)));
            } else {
                int digits = 1 + random.nextInt(random.nextInt(10) == 0 ? 5 : 3);
                for (int k = 0; k < digits; k++) {
                    text.append(random.nextInt(10));
                }
            }
        }
    }
}
