import java.lang.reflect.Constructor;
import java.lang.reflect.Field;
import java.lang.reflect.Member;
import java.lang.reflect.Method;
import java.lang.reflect.Modifier;
import java.util.HashSet;
import java.util.Set;
import java.util.TreeSet;

/** The public face of the document, and rule 1 of LANGUAGE.md: nothing else is to be seen. */
public final class FaceTest {
    private static final Due due = new Due("FaceTest");
    private static final String[] FACE = {
        "int spawn(int, int)", "boolean delete(int)", "boolean load(int, int, int)",
        "boolean offer(int, int, int, boolean)", "boolean window(int, int)", "int send(int, int, int)",
        "int call(int, int, int)", "int receive(int, int, int)", "int access(int, int, boolean, int)",
        "int unmap(int, int, int, boolean)", "int tick()", "int state(int)", "int register(int, int)",
        "int outcome(int)", "int value(int)", "int sender(int)", "int mapping(int, int)", "int heirs(int, int)",
        "int waiting(int)", "int word(int)"
    };

    public static void main(String[] args) {
        due.yes("the class is public", Modifier.isPublic(PagerKernel.class.getModifiers()));
        due.yes("the class is final", Modifier.isFinal(PagerKernel.class.getModifiers()));
        due.yes("the class extends Object alone", PagerKernel.class.getSuperclass() == Object.class);
        due.is("its interfaces", PagerKernel.class.getInterfaces().length, 0);
        due.yes("it has no package", PagerKernel.class.getPackageName().isEmpty());
        constructor();
        methods();
        fields();
        classesInside();
        due.end();
    }

    private static void constructor() {
        Constructor<?>[] all = PagerKernel.class.getDeclaredConstructors();
        due.is("constructors", all.length, 1);
        due.yes("the constructor is public", Modifier.isPublic(all[0].getModifiers()));
        due.is("its parameters", all[0].getParameterCount(), 0);
    }

    private static String text(Method method) {
        StringBuilder text = new StringBuilder();
        for (Class<?> type : method.getParameterTypes()) {
            text.append(text.length() == 0 ? "" : ", ").append(type.getName());
        }
        return method.getReturnType().getName() + " " + method.getName() + "(" + text + ")";
    }

    private static void methods() {
        Set<String> seen = new TreeSet<>();
        Set<String> publicNames = new HashSet<>();
        for (Method method : PagerKernel.class.getDeclaredMethods()) {
            if (isHidden(method)) {
                continue;
            }
            due.yes(text(method) + " is public", Modifier.isPublic(method.getModifiers()));
            due.no(text(method) + " is static", Modifier.isStatic(method.getModifiers()));
            seen.add(text(method));
            publicNames.add(method.getName());
        }
        Set<String> wanted = new TreeSet<>(Set.of(FACE));
        due.yes("the methods " + seen + " are those of the document", seen.equals(wanted));
        for (Method method : PagerKernel.class.getDeclaredMethods()) {
            boolean samePrivateName = isHidden(method) && publicNames.contains(method.getName());
            due.no("the private " + text(method) + " bears a public name", samePrivateName);
        }
    }

    private static void fields() {
        for (Field field : PagerKernel.class.getDeclaredFields()) {
            due.yes("the field " + field.getName() + " is private", isHidden(field));
            boolean changes = Modifier.isStatic(field.getModifiers()) && !Modifier.isFinal(field.getModifiers());
            due.no("the field " + field.getName() + " is static and not final", changes);
        }
    }

    private static void classesInside() {
        for (Class<?> inside : PagerKernel.class.getDeclaredClasses()) {
            int modifiers = inside.getModifiers();
            due.no(inside + " is public or protected", Modifier.isPublic(modifiers) || Modifier.isProtected(modifiers));
            due.yes(inside + " is static", Modifier.isStatic(modifiers));
        }
    }

    private static boolean isHidden(Member member) {
        return Modifier.isPrivate(member.getModifiers()) || member.isSynthetic();
    }
}
