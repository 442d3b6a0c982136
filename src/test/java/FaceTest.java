import java.lang.reflect.Constructor;
import java.lang.reflect.Field;
import java.lang.reflect.Method;
import java.lang.reflect.Modifier;
import java.util.Set;
import java.util.TreeSet;

/** The face of the class is the document's, and everything beside it is private. */
public final class FaceTest {
    private static final Set<String> METHODS = Set.of("int tick(int)", "boolean skew(int,int)", "boolean crash(int)",
        "boolean recover(int)", "int elect(int)", "int beat(int)", "int ship(int,int)", "int begin()", "int read(int,int)",
        "boolean write(int,int,int)", "int commit(int)", "boolean abort(int)", "int step(int)", "int state(int)",
        "int stamp(int)", "int snapshot(int,int,int)", "int safe(int)", "int length(int)", "int known(int)", "int leader(int)");
    private static final Set<String> CONSTANTS = Set.of("NONE=-1", "OVER=-2", "DOWN=-3", "WAIT=-4", "STALE=-5", "FULL=-6",
        "LATE=-7", "GONE=-8");
    private static final int OF_A_CONSTANT = Modifier.PUBLIC | Modifier.STATIC | Modifier.FINAL;
    private static int wrong = 0;

    public static void main(String[] args) throws Exception {
        check("the class is public and final", StampedStore.class.getModifiers() == (Modifier.PUBLIC | Modifier.FINAL));
        Set<String> names = publicMethods();
        check("the methods are those of the document", names.equals(METHODS));
        check("the constants are those of the document", constants().equals(CONSTANTS));
        Constructor<?>[] made = StampedStore.class.getDeclaredConstructors();
        check("there is one constructor", made.length == 1 && made[0].getModifiers() == Modifier.PUBLIC
            && made[0].getParameterCount() == 1 && made[0].getParameterTypes()[0] == int.class);
        for (Class<?> inside : StampedStore.class.getDeclaredClasses()) {
            check(inside + " is static and not public", Modifier.isStatic(inside.getModifiers())
                && !Modifier.isPublic(inside.getModifiers()) && !Modifier.isProtected(inside.getModifiers()));
        }
        System.out.println(wrong == 0 ? "the face is the document's" : wrong + " faults of the face");
        if (wrong != 0) {
            System.exit(1);
        }
    }

    private static Set<String> publicMethods() {
        Set<String> names = new TreeSet<>();
        Set<String> hidden = new TreeSet<>();
        for (Method method : StampedStore.class.getDeclaredMethods()) {
            if (Modifier.isPrivate(method.getModifiers()) || method.isSynthetic()) {
                hidden.add(method.getName());
                continue;
            }
            StringBuilder name = new StringBuilder(method.getReturnType() + " " + method.getName() + "(");
            for (Class<?> type : method.getParameterTypes()) {
                name.append(name.charAt(name.length() - 1) == '(' ? "" : ",").append(type);
            }
            names.add(name.append(")").toString());
            check(name + " is public and no more", method.getModifiers() == Modifier.PUBLIC);
        }
        for (String name : names) {
            check(name + " shares its name with no private method",
                !hidden.contains(name.substring(name.indexOf(' ') + 1, name.indexOf('('))));
        }
        return names;
    }

    private static Set<String> constants() throws Exception {
        Set<String> names = new TreeSet<>();
        for (Field field : StampedStore.class.getDeclaredFields()) {
            if (!Modifier.isPrivate(field.getModifiers())) {
                check(field + " is a constant int", field.getModifiers() == OF_A_CONSTANT && field.getType() == int.class);
                names.add(field.getName() + "=" + field.getInt(null));
            }
        }
        return names;
    }

    private static void check(String what, boolean holds) {
        if (!holds) {
            wrong++;
            System.out.println("not so: " + what);
        }
    }
}
