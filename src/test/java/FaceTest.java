import java.lang.reflect.Constructor;
import java.lang.reflect.Field;
import java.lang.reflect.Method;
import java.lang.reflect.Modifier;
import java.util.HashSet;
import java.util.Set;
import java.util.TreeSet;

/** The class has the document's public face and no other visible member (LANGUAGE.md, rules 1, 2, 5). */
public final class FaceTest {
    private static final Set<String> FACE = Set.of(
        "InputExplorer()",
        "int BAD", "int FULL", "int NONE",
        "int step(int,int,int)", "int drop()", "int length()", "int reach(int)",
        "int firstAt(int,int)", "int failing()", "int firstFailing(int)", "int paths()",
        "int alike(int)", "int first(int)", "int mark(int)", "int unmarked()",
        "int extreme(int,int)", "int ending(int,int)", "int steps(int)");

    private static int wrong = 0;

    private static void hold(boolean holds, String what) {
        if (!holds) {
            wrong++;
            System.out.println("does not hold: " + what);
        }
    }

    private static String listed(Class<?>[] types) {
        StringBuilder text = new StringBuilder();
        for (Class<?> type : types) {
            text.append(text.length() == 0 ? "" : ",").append(type.getSimpleName());
        }
        return "(" + text + ")";
    }

    private static boolean isAllowed(Class<?> type) {
        Class<?> element = type.isArray() ? type.getComponentType() : type;
        return element.isPrimitive() && element != float.class && element != double.class;
    }

    private static void visibleMembers() {
        Set<String> visible = new TreeSet<>();
        for (Constructor<?> made : InputExplorer.class.getDeclaredConstructors()) {
            visible.add("InputExplorer" + listed(made.getParameterTypes()));
            hold(Modifier.isPublic(made.getModifiers()), "the constructor is public");
        }
        for (Field field : InputExplorer.class.getDeclaredFields()) {
            if (!Modifier.isPrivate(field.getModifiers())) {
                visible.add("int " + field.getName());
                hold(field.getModifiers() == (Modifier.PUBLIC | Modifier.STATIC | Modifier.FINAL)
                    && field.getType() == int.class, field.getName() + " is a public constant");
            }
        }
        for (Method method : InputExplorer.class.getDeclaredMethods()) {
            if (!Modifier.isPrivate(method.getModifiers())) {
                visible.add(method.getReturnType().getSimpleName() + " " + method.getName()
                    + listed(method.getParameterTypes()));
                hold(method.getModifiers() == Modifier.PUBLIC, method.getName() + " is public alone");
            }
        }
        hold(visible.equals(new TreeSet<>(FACE)), "the visible members are the document's: " + visible);
    }

    private static void privateMembers() {
        int fields = 0;
        for (Field field : InputExplorer.class.getDeclaredFields()) {
            hold(isAllowed(field.getType()), "the type of " + field.getName());
            if (Modifier.isStatic(field.getModifiers())) {
                hold(Modifier.isFinal(field.getModifiers()) && !field.getType().isArray(),
                    field.getName() + " is a constant");
            } else {
                fields++;
            }
        }
        hold(fields <= 40, "at most forty fields");
        Set<String> names = new HashSet<>();
        for (Method method : InputExplorer.class.getDeclaredMethods()) {
            hold(names.add(method.getName()), "one method alone is named " + method.getName());
            hold(method.getParameterCount() <= 7, "at most seven parameters: " + method.getName());
        }
    }

    public static void main(String[] args) {
        int modifiers = InputExplorer.class.getModifiers();
        hold(modifiers == (Modifier.PUBLIC | Modifier.FINAL), "the class is public and final");
        hold(InputExplorer.class.getPackageName().isEmpty(), "the class has no package");
        hold(InputExplorer.class.getDeclaredClasses().length == 0, "no nested class");
        visibleMembers();
        privateMembers();
        System.out.println(wrong == 0 ? "the face is as due" : wrong + " faults");
        if (wrong != 0) {
            System.exit(1);
        }
    }
}
