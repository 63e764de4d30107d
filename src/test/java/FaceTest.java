import java.io.IOException;
import java.lang.reflect.Constructor;
import java.lang.reflect.Field;
import java.lang.reflect.Member;
import java.lang.reflect.Method;
import java.lang.reflect.Modifier;
import java.nio.file.Files;
import java.nio.file.Path;
import java.util.ArrayList;
import java.util.List;
import java.util.TreeSet;
import java.util.regex.Matcher;
import java.util.regex.Pattern;

/** The public face is just the one of the document, what each method may throw too. */
public final class FaceTest {
    private static final Path DOCUMENT = Path.of("../shared/DOC.md");
    private static final Pattern METHOD = Pattern.compile("(?m)^    public (\\w+) (\\w+)\\(([^)]*)\\)(?: throws ([^;]*))?;$");
    private static final int METHODS = 44;

    public static void main(String[] args) throws IOException {
        TreeSet<String> told = told(Files.readString(DOCUMENT));
        Check.due("methods that the document tells", told.size(), METHODS);
        TreeSet<String> found = new TreeSet<>();
        for (Method method : WaistSand.class.getDeclaredMethods()) {
            if (isSeen(method)) {
                found.add(written(method));
            }
        }
        Check.due("methods", found, told);
        List<String> fields = new ArrayList<>();
        for (Field field : WaistSand.class.getDeclaredFields()) {
            if (isSeen(field)) {
                fields.add(Modifier.toString(field.getModifiers()) + " " + field.getType() + " " + field.getName());
            }
        }
        Check.due("constants", fields, List.of("public static final int NONE"));
        Check.due("NONE", WaistSand.NONE, -1);
        Constructor<?>[] made = WaistSand.class.getDeclaredConstructors();
        Check.due("constructors", made.length, 1);
        Check.due("constructor", Modifier.toString(made[0].getModifiers()) + made[0].getParameterCount(), "public0");
        Check.due("class", Modifier.toString(WaistSand.class.getModifiers()), "public final");
        for (Class<?> inside : WaistSand.class.getDeclaredClasses()) {
            int how = inside.getModifiers();
            Check.due(inside + " is private and static", Modifier.isPrivate(how) && Modifier.isStatic(how), true);
        }
        Check.ends("FaceTest");
    }

    private static boolean isSeen(Member member) {
        return !Modifier.isPrivate(member.getModifiers()) && !member.isSynthetic();
    }

    /** The methods of the document's face, without the names of what is given to them. */
    private static TreeSet<String> told(String document) {
        TreeSet<String> methods = new TreeSet<>();
        Matcher lines = METHOD.matcher(document);
        while (lines.find()) {
            String given = lines.group(3).replaceAll(" \\w+(, |$)", "$1").replace(", ", ",");
            String thrown = lines.group(4) == null ? "" : lines.group(4);
            methods.add(lines.group(1) + " " + lines.group(2) + "(" + given + ")" + List.of(thrown.split(", ")));
        }
        return methods;
    }

    private static String written(Method method) {
        List<String> given = names(method.getParameterTypes());
        List<String> thrown = names(method.getExceptionTypes());
        return method.getReturnType() + " " + method.getName() + "(" + String.join(",", given) + ")" + (thrown.isEmpty() ? List.of("") : thrown);
    }

    private static List<String> names(Class<?>[] types) {
        List<String> names = new ArrayList<>();
        for (Class<?> type : types) {
            names.add(type.getSimpleName());
        }
        return names;
    }
}
