import java.lang.reflect.Constructor;
import java.lang.reflect.Field;
import java.lang.reflect.Method;
import java.lang.reflect.Modifier;
import java.util.TreeSet;

/** The class shows the document's face, and nothing beside it. */
public final class FaceTest {
    private static final String[] FACE = {
        "int feed(int, int, int, int, int)", "int end(int)", "int text()", "int fault(int)", "boolean by(int)",
        "int give(int)", "int free(int)", "boolean write(int, int)", "int mesh(int, int)", "int fence(int, int)",
        "int move()", "boolean lift()", "int compact()", "int day(int)", "int played(int)", "int years(int, int)",
        "int undo()", "int at(int)", "int page(int, int)", "int vector(int, int)", "int frame(int, int)",
        "int is(int)", "int book(int, int)", "int foretold(int, int)", "int clash(int, int)", "int can(int, int)",
        "long odds(int, int, boolean)", "long expected(boolean)", "int most()", "int mate(int)", "int fewest()",
        "int would()", "int sparse()", "int runs(int)", "int longest(int)", "int find(int, int, int)",
        "int same(int, int)", "int sum(int)", "int holds(int)", "int fullest()", "boolean sound()", "int probes()",
        "boolean meshes(int, int)", "int said(int, int, int)", "int whose()", "int ledger(int)", "int image()",
        "int back()", "int about(int)"};

    public static void main(String[] args) {
        TreeSet<String> due = new TreeSet<>();
        for (String method : FACE) {
            due.add(method);
        }
        TreeSet<String> names = new TreeSet<>();
        TreeSet<String> shown = new TreeSet<>();
        for (Method method : MeshedPages.class.getDeclaredMethods()) {
            if (!Modifier.isPrivate(method.getModifiers())) {
                Due.holds(method + " is public and no static one",
                    Modifier.isPublic(method.getModifiers()) && !Modifier.isStatic(method.getModifiers()));
                shown.add(signature(method));
                names.add(method.getName());
            }
        }
        Due.holds("the methods are those of the document: " + shown, shown.equals(due));
        Due.is("how many methods", shown.size(), 49);
        for (Method method : MeshedPages.class.getDeclaredMethods()) {
            if (Modifier.isPrivate(method.getModifiers())) {
                Due.holds(method.getName() + " bears no public name", !names.contains(method.getName()));
            }
        }
        Constructor<?>[] constructors = MeshedPages.class.getDeclaredConstructors();
        Due.is("constructors", constructors.length, 1);
        Due.holds("one without arguments", constructors[0].getParameterCount() == 0
            && Modifier.isPublic(constructors[0].getModifiers()));
        for (Field field : MeshedPages.class.getDeclaredFields()) {
            int how = field.getModifiers();
            Due.holds(field + " is shown only if it is NONE", Modifier.isPrivate(how) != field.getName().equals("NONE"));
            Due.holds(field + " is final if it is static", !Modifier.isStatic(how) || Modifier.isFinal(how));
        }
        for (Class<?> inside : MeshedPages.class.getDeclaredClasses()) {
            int how = inside.getModifiers();
            Due.holds(inside + " is static and not shown",
                Modifier.isStatic(how) && !Modifier.isPublic(how) && !Modifier.isProtected(how));
            Due.holds(inside + " has some twenty fields at the most", inside.getDeclaredFields().length <= 20);
        }
        Due.holds("at most twelve classes", MeshedPages.class.getDeclaredClasses().length < 12);
        Due.holds("public and final", MeshedPages.class.getModifiers() == (Modifier.PUBLIC | Modifier.FINAL));
        Due.is("NONE", MeshedPages.NONE, -1);
        Due.end();
    }

    private static String signature(Method method) {
        StringBuilder text = new StringBuilder(method.getReturnType().getName());
        text.append(' ').append(method.getName()).append('(');
        for (int i = 0; i < method.getParameterCount(); i++) {
            text.append(i == 0 ? "" : ", ").append(method.getParameterTypes()[i].getName());
        }
        return text.append(')').toString();
    }
}
