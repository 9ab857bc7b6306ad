import java.lang.reflect.Constructor;
import java.lang.reflect.Field;
import java.lang.reflect.Method;
import java.lang.reflect.Modifier;
import java.util.Set;
import java.util.TreeSet;

/** The class has the document's public face, and nothing else of it can be seen from outside. */
public final class FaceTest {
    private static final Set<String> FACE = Set.of(
            "push(int)", "paste(int,int)", "open()", "pop()", "close()", "documents()",
            "length(int)", "symbolAt(int)", "ask(int)", "forget()", "count()",
            "occurrence(int)", "countIn(int)", "spread()", "longestEnd()", "longestBegin()",
            "ranked(int)", "rankOf(int)", "common(int,int)", "repeated()", "different()",
            "extensions()");

    private static int wrong;

    private static void check(boolean holds, String what) {
        if (!holds) {
            wrong++;
            System.out.println("not so: " + what);
        }
    }

    private static String signature(Method method) {
        StringBuilder types = new StringBuilder();
        for (Class<?> type : method.getParameterTypes()) {
            types.append(types.length() == 0 ? "" : ",").append(type);
        }
        return method.getName() + "(" + types + ")";
    }

    private static void methods() {
        Set<String> seen = new TreeSet<>();
        Set<String> publicNames = new TreeSet<>();
        for (Method method : FmIndex.class.getDeclaredMethods()) {
            if (!Modifier.isPrivate(method.getModifiers())) {
                seen.add(signature(method));
                publicNames.add(method.getName());
                check(method.getModifiers() == Modifier.PUBLIC, method + " is public and no more");
                check(method.getReturnType() == int.class, method + " answers an int");
            }
        }
        check(seen.equals(FACE), "the methods to be seen are the document's: " + seen);
        for (Method method : FmIndex.class.getDeclaredMethods()) {
            check(!Modifier.isPrivate(method.getModifiers())
                    || !publicNames.contains(method.getName()),
                    "no private method bears a public one's name: " + method);
        }
    }

    private static boolean isNumberOrRow(Class<?> type) {
        Class<?> item = type.isArray() ? type.getComponentType() : type;
        return item.isPrimitive() && item != float.class && item != double.class;
    }

    private static void fields() {
        for (Field field : FmIndex.class.getDeclaredFields()) {
            int modifiers = field.getModifiers();
            check(Modifier.isPrivate(modifiers), field + " is private");
            check(isNumberOrRow(field.getType()), field + " is a number or a row of them");
            if (Modifier.isStatic(modifiers)) {
                check(Modifier.isFinal(modifiers), field + " is a constant");
                check(field.getType() == int.class || field.getType() == long.class,
                        field + " is an int or long");
            }
        }
    }

    public static void main(String[] args) {
        Class<?> it = FmIndex.class;
        check(it.getModifiers() == (Modifier.PUBLIC | Modifier.FINAL), "public and final");
        check(it.getSuperclass() == Object.class, "no class above it");
        check(it.getInterfaces().length == 0, "no interfaces");
        check(it.getDeclaredClasses().length == 0, "no nested class");
        Constructor<?>[] constructors = it.getDeclaredConstructors();
        check(constructors.length == 1 && constructors[0].getParameterCount() == 0
                && Modifier.isPublic(constructors[0].getModifiers()),
                "one public constructor without parameters");
        methods();
        fields();
        System.out.println(wrong == 0 ? "the face is as due" : wrong + " things are not as due");
        if (wrong != 0) {
            System.exit(1);
        }
    }
}
