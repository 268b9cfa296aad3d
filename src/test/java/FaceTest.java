import java.lang.reflect.Constructor;
import java.lang.reflect.Field;
import java.lang.reflect.Method;
import java.lang.reflect.Modifier;
import java.util.Arrays;
import java.util.Set;
import java.util.TreeSet;

/** The face is the document's and no more; LANGUAGE.md, rules 1, 2, 5, 11. */
public final class FaceTest {
    private static final String[] METHODS = {
        "int row(int,int,int)", "int set(int,int,int)", "int copy(int,int,int,int,int)", "int drop(int)",
        "int cover(int,int,int,int,int)", "int part(int,int,int)", "int name(int,int)", "int between(int,int,int,int)",
        "int braid(int,int,int,int)", "int turn(int,int,int)", "int over(int,int,int)", "int clear(int)",
        "int told(int,int)", "int leads(int,int,int)", "int shape(int,int,int)", "int block(int,int,int,int)",
        "int same(int,int)", "int ring(int)", "int lift(int,int,int,int,int)", "int kind(int)", "int is(int,int)",
        "int as(int,int)", "int ask(int,int)", "int trace(int)", "long joins(int,int,int)", "int shapes(int,int,int)",
        "int count(int)", "int status()"};
    private static final String[] FIELDS = {"NONE", "BAD", "FULL"};
    private static int wrong = 0;

    public static void main(String[] args) throws Exception {
        Class<?> face = SphereSheets.class;
        check(face.getModifiers() == (Modifier.PUBLIC | Modifier.FINAL), "the class is public and final");
        check(face.getPackageName().isEmpty() && face.getSuperclass() == Object.class, "no package, no class above");
        checkMethods(face);
        checkFields(face);
        checkConstructors(face);
        int classes = 1;
        for (Class<?> inside : face.getDeclaredClasses()) {
            classes++;
            int m = inside.getModifiers();
            check(Modifier.isStatic(m) && !Modifier.isPublic(m) && !Modifier.isProtected(m), inside + " is hidden");
            checkInside(inside);
        }
        check(classes <= 12, "some twelve classes");
        if (wrong != 0) {
            System.exit(1);
        }
    }

    private static void check(boolean holds, String what) {
        if (!holds) {
            wrong++;
            System.out.println("not so: " + what);
        }
    }

    private static Set<String> faceNames() {
        Set<String> names = new TreeSet<>();
        for (String method : METHODS) {
            names.add(method.substring(method.indexOf(' ') + 1, method.indexOf('(')));
        }
        return names;
    }

    private static void checkMethods(Class<?> face) {
        Set<String> open = new TreeSet<>();
        for (Method method : face.getDeclaredMethods()) {
            check(method.getParameterCount() <= 7, method + " takes at most seven");
            if (Modifier.isPrivate(method.getModifiers())) {
                check(!faceNames().contains(method.getName()), method + " bears no public name");
                continue;
            }
            check(method.getModifiers() == Modifier.PUBLIC, method + " is public alone");
            String whole = method.toString();
            open.add(method.getReturnType() + " " + whole.substring(whole.indexOf("SphereSheets.") + 13));
        }
        check(open.equals(new TreeSet<>(Arrays.asList(METHODS))), "methods " + open);
    }

    private static void checkFields(Class<?> face) throws Exception {
        Set<String> open = new TreeSet<>();
        for (Field field : face.getDeclaredFields()) {
            int m = field.getModifiers();
            check(!Modifier.isStatic(m) || Modifier.isFinal(m), field + " is final");
            if (!Modifier.isPrivate(m)) {
                open.add(field.getName());
                check(field.getType() == int.class && m == (Modifier.PUBLIC | Modifier.STATIC | Modifier.FINAL),
                    field + " is a public constant");
            }
        }
        check(open.equals(new TreeSet<>(Arrays.asList(FIELDS))), "constants " + open);
        check(SphereSheets.NONE == -1000000 && SphereSheets.BAD == -1000001 && SphereSheets.FULL == -1000003, "values");
    }

    private static void checkConstructors(Class<?> face) {
        Constructor<?>[] all = face.getDeclaredConstructors();
        check(all.length == 1 && all[0].getParameterCount() == 0 && all[0].getModifiers() == Modifier.PUBLIC,
            "one public constructor");
    }

    private static void checkInside(Class<?> inside) {
        for (Method method : inside.getDeclaredMethods()) {
            check(!faceNames().contains(method.getName()), method + " bears no public name");
            check(method.getParameterCount() <= 7, method + " takes at most seven");
        }
        for (Field field : inside.getDeclaredFields()) {
            int m = field.getModifiers();
            check(!Modifier.isStatic(m) || Modifier.isFinal(m), field + " is final");
        }
        check(inside.getDeclaredFields().length <= 20, inside + " has some twenty fields");
    }
}
