import java.lang.reflect.InvocationTargetException;
import java.lang.reflect.Method;
import java.nio.charset.StandardCharsets;
import java.util.ArrayList;
import java.util.Arrays;
import java.util.Comparator;
import java.util.List;
import java.util.Random;

/** The same calls, by draws, on the class and on the slow model: each answer or exception must be the same. */
public final class ModelTest {
    private final Random random;
    private final WaistSand sand = new WaistSand();
    private final Model model = new Model();
    private final List<String> said = new ArrayList<>();
    private int wrong;

    private ModelTest(long seed) {
        random = new Random(seed);
    }

    public static void main(String[] args) throws Exception {
        int first = args.length > 0 ? Integer.parseInt(args[0]) : 1;
        int runs = args.length > 1 ? Integer.parseInt(args[1]) : 150;
        List<Method> face = new ArrayList<>(Arrays.asList(WaistSand.class.getDeclaredMethods()));
        face.removeIf(m -> !java.lang.reflect.Modifier.isPublic(m.getModifiers()));
        face.sort(Comparator.comparing(Method::getName));
        int calls = 0;
        for (int i = first; i < first + runs; i++) {
            ModelTest test = new ModelTest(i);
            test.go(face);
            calls += test.said.size();
            if (test.wrong > 0) {
                System.out.println("run of seed " + i);
                test.said.subList(Math.max(0, test.said.size() - 40), test.said.size()).forEach(System.out::println);
                System.exit(1);
            }
        }
        System.out.println("ModelTest: " + calls + " calls as the model");
    }

    private int upTo(int n) {
        return random.nextInt(n + 1);
    }

    private void go(List<Method> face) throws Exception {
        beach(scene());
        if (random.nextInt(4) > 0) {
            law(lawText());
        }
        int calls = 40 + upTo(120);
        for (int i = 0; i < calls && wrong == 0; i++) {
            int kind = random.nextInt(40);
            if (kind < 2) {
                beach(mutated(random.nextBoolean() ? scene() : beachText()));
            } else if (kind < 4) {
                law(mutated(lawText()));
            } else if (kind < 9) {
                act();
            } else {
                call(face.get(random.nextInt(face.size())));
            }
        }
    }

    private void act() throws Exception {
        switch (random.nextInt(8)) {
            case 0, 1, 2 -> both("moved", new Class<?>[] {int.class, int.class}, upTo(6), upTo(1));
            case 3 -> both("moves", new Class<?>[] {int.class}, 1 + upTo(8));
            case 4 -> both("pull", new Class<?>[] {int.class}, 1 + upTo(12));
            case 5 -> both("talk", new Class<?>[0]);
            case 6 -> both("pour", new Class<?>[0]);
            default -> both("undo", new Class<?>[0]);
        }
    }

    private void call(Method method) throws Exception {
        String name = method.getName();
        // Texts go by beach() and law() below; going back often would leave little to look at.
        if (name.equals("back") && random.nextInt(3) > 0) {
            return;
        }
        Class<?>[] types = method.getParameterTypes();
        Object[] arguments = new Object[types.length];
        for (int i = 0; i < types.length; i++) {
            arguments[i] = types[i] == boolean.class ? (Object) random.nextBoolean() : (Object) number(name, i);
        }
        both(name, types, arguments);
    }

    private int number(String name, int place) {
        int kind = random.nextInt(30);
        if (kind == 0) {
            return random.nextBoolean() ? Integer.MIN_VALUE : Integer.MAX_VALUE;
        }
        if (kind == 1) {
            return -1 - upTo(2);
        }
        if (kind == 2) {
            return random.nextInt();
        }
        return switch (name) {
            case "feed", "seed" -> random.nextInt();
            case "soonest" -> upTo(140);
            case "best" -> place == 0 ? (random.nextBoolean() ? 127 : upTo(127)) : upTo(6);
            case "cell", "holes" -> place == 0 ? upTo(64) : upTo(5);
            case "way", "walk" -> place == 0 ? upTo(6) : upTo(64);
            case "board", "moves" -> upTo(65);
            case "run", "better" -> place == 0 ? upTo(220) : upTo(22);
            case "force" -> upTo(32);
            case "trial", "span" -> upTo(42);
            case "end" -> upTo(30);
            case "count" -> upTo(19);
            case "log" -> place == 0 ? upTo(62) : upTo(5);
            case "pull" -> upTo(21);
            case "move", "moved", "would" -> place == 0 ? upTo(7) : place == 1 && !name.equals("move") ? upTo(2) : upTo(5);
            default -> upTo(10);
        };
    }

    private void both(String name, Class<?>[] types, Object... arguments) throws Exception {
        String got = answer(WaistSand.class.getMethod(name, types), sand, arguments);
        String want = answer(Model.class.getMethod(name, types), model, arguments);
        said.add(name + Arrays.toString(arguments) + " -> " + got);
        if (!got.equals(want)) {
            wrong++;
            said.add("   due is " + want);
        }
    }

    private static String answer(Method method, Object on, Object[] arguments) throws Exception {
        try {
            return String.valueOf(method.invoke(on, arguments));
        } catch (InvocationTargetException e) {
            return e.getCause().getClass().getName();
        }
    }

    private void tape(String text) throws Exception {
        both("end", new Class<?>[] {int.class}, 0);
        byte[] bytes = text.getBytes(StandardCharsets.ISO_8859_1);
        Class<?> i = int.class;
        for (int at = 0; at < bytes.length; at += 20) {
            int[] f = Check.fed(bytes, at);
            both("feed", new Class<?>[] {i, i, i, i, i}, f[0], f[1], f[2], f[3], f[4]);
        }
        both("end", new Class<?>[] {i}, bytes.length);
        said.add("text '" + text + "'");
    }

    private void beach(String text) throws Exception {
        tape(text);
        both("beach", new Class<?>[0]);
        both("fault", new Class<?>[0]);
    }

    private void law(String text) throws Exception {
        tape(text);
        both("law", new Class<?>[0]);
        both("fault", new Class<?>[0]);
    }

    // ---- texts by draws

    private String blanks() {
        return " ".repeat(random.nextInt(6) == 0 ? upTo(3) : 0);
    }

    private String line() {
        int n = random.nextInt(13);
        String at = " " + upTo(7) + " " + upTo(7);
        return switch (n) {
            case 0 -> "legs " + upTo(9) + " " + upTo(9);
            case 1 -> "thin " + upTo(5);
            case 2 -> "calm " + upTo(9);
            case 3 -> "water " + upTo(9);
            case 4 -> "tide " + upTo(300);
            case 5 -> moveLine(upTo(6));
            case 6 -> "slip " + upTo(100);
            case 7 -> "bears" + at + " " + upTo(9);
            case 8 -> "heap" + at;
            case 9 -> "shine" + at;
            case 10 -> "hole" + at;
            case 11 -> "person " + (1 + upTo(8)) + " at" + at;
            default -> "boards " + upTo(9);
        };
    }

    private String moveLine(int move) {
        int down = upTo(4) * random.nextInt(2);
        return "move " + move + " up " + upTo(4) + " down " + down + " stirs " + upTo(2) + " takes " + (1 + upTo(9));
    }

    private String joined(List<String> lines) {
        StringBuilder text = new StringBuilder(blanks());
        for (int i = 0; i < lines.size(); i++) {
            text.append(i == 0 ? "" : ";").append(blanks()).append(lines.get(i)).append(blanks());
        }
        return text.length() > 400 ? text.substring(0, 400) : text.toString();
    }

    private String beachText() {
        List<String> lines = new ArrayList<>();
        for (int n = upTo(random.nextInt(10) == 0 ? 16 : 8); n > 0; n--) {
            lines.add(line());
        }
        return joined(lines);
    }

    private String scene() {
        List<String> lines = new ArrayList<>();
        lines.add("legs " + upTo(9) + " " + upTo(9));
        for (int n = 2 + upTo(3); n > 0; n--) {
            lines.add(moveLine(upTo(6)));
        }
        for (int n = upTo(5); n > 0; n--) {
            lines.add(line());
        }
        return joined(lines);
    }

    private String lawText() {
        List<String> lines = new ArrayList<>();
        for (int n = upTo(random.nextInt(10) == 0 ? 14 : 5); n > 0; n--) {
            String kind = new String[] {"up", "down", "stir", "settle"}[random.nextInt(4)];
            String amount = kind + " " + upTo(kind.equals("down") ? 2 : 4);
            lines.add(random.nextInt(4) == 0 ? amount : amount + " if " + condition(0));
        }
        return joined(lines);
    }

    private String condition(int deep) {
        StringBuilder text = new StringBuilder(atom(deep));
        while (random.nextInt(3) == 0) {
            text.append(random.nextBoolean() ? " and " : " or ").append(blanks()).append(atom(deep));
        }
        return text.toString();
    }

    private String atom(int deep) {
        int kind = random.nextInt(deep < 8 ? 8 : 5);
        if (kind == 0) {
            return "lying";
        }
        if (kind < 5) {
            return sum() + blanks() + (random.nextBoolean() ? "<" : ">") + blanks() + sum();
        }
        return kind == 5 ? "not " + atom(deep + 1) : "(" + blanks() + condition(deep + 1) + blanks() + ")";
    }

    private String sum() {
        StringBuilder text = new StringBuilder(part());
        while (random.nextInt(4) == 0) {
            text.append(blanks()).append('+').append(blanks()).append(part());
        }
        return text.toString();
    }

    private String part() {
        String[] facts = {"move", "leg", "other", "thin", "calm", "water"};
        return random.nextBoolean() ? String.valueOf(upTo(9)) : facts[random.nextInt(6)];
    }

    private String mutated(String text) {
        StringBuilder changed = new StringBuilder(text);
        int times = random.nextInt(3);
        for (int i = 0; i < times && changed.length() > 0 && changed.length() < 400; i++) {
            int at = random.nextInt(changed.length());
            char c = " ;()<>+0159anotlyingXz\u00e9".charAt(random.nextInt(23));
            switch (random.nextInt(4)) {
                case 0 -> changed.setCharAt(at, c);
                case 1 -> changed.insert(at, c);
                case 2 -> changed.deleteCharAt(at);
                default -> changed.setLength(at);
            }
        }
        return changed.toString();
    }
}
