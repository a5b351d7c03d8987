import java.lang.reflect.Constructor;
import java.lang.reflect.Field;
import java.lang.reflect.Method;
import java.lang.reflect.Modifier;
import java.nio.file.Files;
import java.nio.file.Path;
import java.util.ArrayList;
import java.util.List;
import java.util.TreeSet;

/** The public face is the document's, and nothing else of the class can be seen. */
public final class FaceTest {
    public static void main(String[] args) throws Exception {
        Check check = new Check("FaceTest");
        TreeSet<String> due = new TreeSet<>(faceOfDocument());
        TreeSet<String> got = new TreeSet<>();
        for (Field field : FlatPlan.class.getDeclaredFields()) {
            if (!Modifier.isPrivate(field.getModifiers())) {
                got.add(Modifier.toString(field.getModifiers()) + " int " + field.getName() + " = " + field.getInt(null));
            }
        }
        for (Constructor<?> made : FlatPlan.class.getDeclaredConstructors()) {
            if (!Modifier.isPrivate(made.getModifiers())) {
                got.add(Modifier.toString(made.getModifiers()) + " FlatPlan(" + made.getParameterCount() + ")");
            }
        }
        TreeSet<String> publicNames = new TreeSet<>();
        for (Method method : FlatPlan.class.getDeclaredMethods()) {
            if (!Modifier.isPrivate(method.getModifiers())) {
                got.add(shown(method));
                publicNames.add(method.getName());
            }
        }
        check.same("the face", got, due);
        for (Method method : FlatPlan.class.getDeclaredMethods()) {
            if (Modifier.isPrivate(method.getModifiers())) {
                check.same("private " + method.getName() + " bears a public name",
                        publicNames.contains(method.getName()), false);
            }
        }
        for (Class<?> inside : FlatPlan.class.getDeclaredClasses()) {
            for (Method method : inside.getDeclaredMethods()) {
                check.same(inside + "." + method.getName() + " bears a public name",
                        publicNames.contains(method.getName()), false);
            }
            check.same(inside + " is static", Modifier.isStatic(inside.getModifiers()), true);
            check.same(inside + " is seen", Modifier.isPublic(inside.getModifiers()), false);
        }
        check.same("final", Modifier.isFinal(FlatPlan.class.getModifiers()), true);
        check.end();
    }

    private static String shown(Method method) {
        List<String> parameters = new ArrayList<>();
        for (Class<?> type : method.getParameterTypes()) {
            parameters.add(type.getSimpleName());
        }
        List<String> thrown = new ArrayList<>();
        for (Class<?> type : method.getExceptionTypes()) {
            thrown.add(type.getSimpleName());
        }
        return "public " + method.getReturnType().getSimpleName() + " " + method.getName() + parameters + thrown;
    }

    /** The members in the code block of ../shared/DOC.md, in the form of shown(). */
    private static List<String> faceOfDocument() throws Exception {
        List<String> face = new ArrayList<>();
        boolean inside = false;
        for (String line : Files.readAllLines(Path.of("../shared/DOC.md"))) {
            String member = line.trim();
            if (member.startsWith("public final class")) {
                inside = true;
            } else if (member.equals("}")) {
                inside = false;
            } else if (inside && member.startsWith("public static final")) {
                face.add(member.replace(";", ""));
            } else if (inside && member.startsWith("public FlatPlan()")) {
                face.add("public FlatPlan(0)");
            } else if (inside) {
                face.add(shownMethod(member));
            }
        }
        return face;
    }

    private static String shownMethod(String member) {
        int open = member.indexOf('(');
        int close = member.indexOf(')');
        List<String> parameters = new ArrayList<>();
        for (String parameter : member.substring(open + 1, close).split(", ")) {
            if (!parameter.isEmpty()) {
                parameters.add(parameter.split(" ")[0]);
            }
        }
        List<String> thrown = new ArrayList<>();
        String rest = member.substring(close + 1).replace(";", "").replace("throws", "").trim();
        for (String name : rest.split(", ")) {
            if (!name.isEmpty()) {
                thrown.add(name);
            }
        }
        return member.substring(0, open) + parameters + thrown;
    }
}
