import java.lang.reflect.Constructor;
import java.lang.reflect.Field;
import java.lang.reflect.Method;
import java.lang.reflect.Modifier;
import java.util.Arrays;
import java.util.TreeSet;

/** The public face: just the members of the document, and no others that can be seen outside. */
public final class FaceTest {
    private static final String[] DUE = {
        "int NONE",
        "AssignmentWorkbench()",
        "int resize(int) IllegalArgumentException",
        "int size()",
        "int set(int,int,int,int) IndexOutOfBoundsException IllegalArgumentException",
        "int get(int,int,int) IndexOutOfBoundsException IllegalArgumentException",
        "int fill(int,int,int,boolean) IllegalArgumentException",
        "int location(int) IndexOutOfBoundsException",
        "int cost()",
        "int choose(int) IndexOutOfBoundsException",
        "int number()",
        "int exchange(int,int) IndexOutOfBoundsException",
        "int gain(int,int) IndexOutOfBoundsException",
        "int bestExchange()",
        "int descend()",
        "int within(int)",
        "int optimum()",
        "int optima()",
        "int optimal(int)",
        "int mean(int) IllegalArgumentException",
        "int localOptima()",
        "int fix(int,int) IndexOutOfBoundsException IllegalStateException",
        "int free(int) IndexOutOfBoundsException IllegalStateException",
        "int fixed(int) IndexOutOfBoundsException",
        "int fixedCost()",
        "int entry(int,int) IndexOutOfBoundsException IllegalStateException",
        "int bound()",
        "int boundWith(int,int) IndexOutOfBoundsException IllegalStateException",
        "int regret(int) IndexOutOfBoundsException IllegalStateException",
        "int branchOn()",
        "int symmetries()",
        "int representative(int) IndexOutOfBoundsException",
        "int search(boolean,boolean)",
        "int found(int) IllegalArgumentException",
        "int nodes(int) IllegalArgumentException",
        "int type(int) IllegalArgumentException IllegalStateException",
        "int clearText()",
        "int fault()",
        "int run() IllegalArgumentException",
        "int undo() IllegalStateException",
        "long checksum()",
    };

    private static String types(Class<?>[] types, String between) {
        StringBuilder out = new StringBuilder();
        for (Class<?> type : types) {
            out.append(out.length() == 0 ? "" : between).append(type.getSimpleName());
        }
        return out.toString();
    }

    private static String line(String head, Class<?>[] parameters, Class<?>[] exceptions) {
        String thrown = types(exceptions, " ");
        return head + "(" + types(parameters, ",") + ")" + (thrown.isEmpty() ? "" : " " + thrown);
    }

    public static void main(String[] args) {
        Class<?> face = AssignmentWorkbench.class;
        Check.same("modifiers of the class", "public final", Modifier.toString(face.getModifiers()));
        TreeSet<String> open = new TreeSet<>();
        TreeSet<String> names = new TreeSet<>();
        for (Field field : face.getDeclaredFields()) {
            if (!Modifier.isPrivate(field.getModifiers())) {
                Check.same("modifiers of " + field.getName(), "public static final",
                        Modifier.toString(field.getModifiers()));
                open.add(field.getType().getSimpleName() + " " + field.getName());
            }
        }
        for (Constructor<?> made : face.getDeclaredConstructors()) {
            open.add(line(face.getSimpleName(), made.getParameterTypes(), made.getExceptionTypes()));
        }
        for (Method method : face.getDeclaredMethods()) {
            if (Modifier.isPublic(method.getModifiers())) {
                Check.same("modifiers of " + method.getName(), "public",
                        Modifier.toString(method.getModifiers()));
                names.add(method.getName());
            }
            if (!Modifier.isPrivate(method.getModifiers())) {
                open.add(line(method.getReturnType().getSimpleName() + " " + method.getName(),
                        method.getParameterTypes(), method.getExceptionTypes()));
            }
        }
        Check.same("the face", new TreeSet<>(Arrays.asList(DUE)).toString(), open.toString());
        Check.same("NONE", -1, AssignmentWorkbench.NONE);
        for (Class<?> inner : face.getDeclaredClasses()) {
            Check.holds(inner + " is static", Modifier.isStatic(inner.getModifiers()));
            for (Method method : inner.getDeclaredMethods()) {
                Check.holds(inner + " has no private " + method.getName() + " of its own",
                        !Modifier.isPrivate(method.getModifiers()) || !names.contains(method.getName()));
            }
        }
        for (Method method : face.getDeclaredMethods()) {
            Check.holds("no private method is named " + method.getName(),
                    !Modifier.isPrivate(method.getModifiers()) || !names.contains(method.getName()));
        }
        Check.end("FaceTest");
    }
}
