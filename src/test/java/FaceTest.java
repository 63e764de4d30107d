import java.lang.reflect.Constructor;
import java.lang.reflect.Field;
import java.lang.reflect.Member;
import java.lang.reflect.Method;
import java.lang.reflect.Modifier;
import java.util.ArrayList;
import java.util.Arrays;
import java.util.List;
import java.util.TreeSet;

/** The public face is just the one of the document. */
public final class FaceTest {
    private static final String FACE = "int feed(int,int,int,int,int);boolean end(int);int beach();int law();int fault();"
        + "int move(int,int);int cell(int,int);int person(int,int);int moved(int,int);int pull(int);int talk();int pour();"
        + "int walk(int,int);int board(int);int moves(int);int would(int,int,int);int soonest(int);int best(int,int);"
        + "int latest();int worth(int);int stuck();int deepest();int round();int more();int run(int,int);"
        + "boolean better(int,int);int force(int,boolean);int way(int,int,boolean);long reach(int,boolean);"
        + "int edge(int,int);int signs(int,boolean);long sinking();int holes(int,int);long rope(int);int placed();"
        + "int trial(int,boolean);int span(int,boolean);int led(int,boolean);int log(int,int);int seed(int);boolean undo();"
        + "void image();boolean back();int count(int)";

    public static void main(String[] args) {
        TreeSet<String> found = new TreeSet<>();
        for (Method method : WaistSand.class.getDeclaredMethods()) {
            if (isSeen(method)) {
                found.add(written(method));
            }
        }
        Check.due("methods", found, new TreeSet<>(Arrays.asList(FACE.split(";"))));
        List<String> fields = new ArrayList<>();
        for (Field field : WaistSand.class.getDeclaredFields()) {
            if (isSeen(field)) {
                fields.add(Modifier.toString(field.getModifiers()) + " " + field.getType() + " " + field.getName());
            }
        }
        Check.due("constants", fields, List.of("public static final int NONE"));
        Constructor<?>[] made = WaistSand.class.getDeclaredConstructors();
        Check.due("constructors", made.length, 1);
        Check.due("constructor", Modifier.toString(made[0].getModifiers()) + made[0].getParameterCount(), "public0");
        Check.due("class", Modifier.toString(WaistSand.class.getModifiers()), "public final");
        for (Class<?> inside : WaistSand.class.getDeclaredClasses()) {
            int how = inside.getModifiers();
            Check.due(inside + " is private and static", Modifier.isPrivate(how) && Modifier.isStatic(how), true);
        }
        Check.ends("FaceTest");
    }

    private static boolean isSeen(Member member) {
        return !Modifier.isPrivate(member.getModifiers()) && !member.isSynthetic();
    }

    private static String written(Method method) {
        StringBuilder text = new StringBuilder(method.getReturnType() + " " + method.getName() + "(");
        for (Class<?> type : method.getParameterTypes()) {
            text.append(text.charAt(text.length() - 1) == '(' ? "" : ",").append(type);
        }
        return text.append(")").toString();
    }
}
