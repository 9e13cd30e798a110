import java.lang.reflect.Constructor;
import java.lang.reflect.Field;
import java.lang.reflect.Method;
import java.lang.reflect.Modifier;
import java.util.TreeSet;

/** The class has the members that the document lists, and no other that is not private. */
public final class FaceTest {
    private static final String METHODS = "[begin(int)int, commit(int)int, content(int,int)int, crash(int)int,"
            + " deliver(int)int, entry(int,int)int, expire(int,int,boolean)int, forced(int)int, holder(int,int)int,"
            + " lose(int)int, message(int,int)int, messages()int, nodes(int,int)int, records(int,boolean)int,"
            + " recover(int)int, stage(int)int, state(int,int)int, up(int)boolean, withdraw(int)int,"
            + " work(int,int,int)int]";
    private static final String CONSTANTS = "[BAD=-2, DOWN=-3, FULL=-5, LATE=-4, NONE=-1]";

    public static void main(String[] args) throws ReflectiveOperationException {
        Checks check = new Checks();
        check.about("the public face");
        Class<?> face = AbsentMeansAbort.class;
        check.due("class", Modifier.toString(face.getModifiers()), "public final");
        check.due("constants", constants(face).toString(), CONSTANTS);
        check.due("methods", methods(face).toString(), METHODS);
        check.due("constructors", constructors(face).toString(), "[0 public]");
        check.due("private methods with a public name", clashes(face).toString(), "[]");
        check.finish();
    }

    private static TreeSet<String> constants(Class<?> face) throws ReflectiveOperationException {
        TreeSet<String> found = new TreeSet<>();
        for (Field field : face.getDeclaredFields()) {
            if (!Modifier.isPrivate(field.getModifiers())) {
                boolean constant = Modifier.toString(field.getModifiers()).equals("public static final");
                found.add(field.getName() + (constant ? "=" + field.getInt(null) : " is no constant"));
            }
        }
        return found;
    }

    private static TreeSet<String> methods(Class<?> face) {
        TreeSet<String> found = new TreeSet<>();
        for (Method method : face.getDeclaredMethods()) {
            if (Modifier.isPrivate(method.getModifiers())) {
                continue;
            }
            StringBuilder text = new StringBuilder(method.getName()).append('(');
            for (Class<?> type : method.getParameterTypes()) {
                text.append(text.charAt(text.length() - 1) == '(' ? "" : ",").append(type.getName());
            }
            text.append(')').append(method.getReturnType().getName());
            found.add(text + (method.getModifiers() == Modifier.PUBLIC ? "" : " is not just public"));
        }
        return found;
    }

    private static TreeSet<String> constructors(Class<?> face) {
        TreeSet<String> found = new TreeSet<>();
        for (Constructor<?> constructor : face.getDeclaredConstructors()) {
            found.add(constructor.getParameterCount() + " " + Modifier.toString(constructor.getModifiers()));
        }
        return found;
    }

    private static TreeSet<String> clashes(Class<?> face) {
        TreeSet<String> publicNames = new TreeSet<>();
        for (Method method : face.getDeclaredMethods()) {
            if (Modifier.isPublic(method.getModifiers())) {
                publicNames.add(method.getName());
            }
        }
        TreeSet<String> found = new TreeSet<>();
        addClashes(face, publicNames, found);
        for (Class<?> inside : face.getDeclaredClasses()) {
            addClashes(inside, publicNames, found);
        }
        return found;
    }

    private static void addClashes(Class<?> where, TreeSet<String> publicNames, TreeSet<String> found) {
        for (Method method : where.getDeclaredMethods()) {
            if (!Modifier.isPublic(method.getModifiers()) && publicNames.contains(method.getName())) {
                found.add(where.getName() + "." + method.getName());
            }
        }
    }
}
