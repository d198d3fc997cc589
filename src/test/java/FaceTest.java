import java.lang.reflect.Constructor;
import java.lang.reflect.Field;
import java.lang.reflect.Method;
import java.lang.reflect.Modifier;
import java.util.Set;
import java.util.TreeSet;

/** The public face, member by member, and what LANGUAGE.md rule 1 says of all else. */
public final class FaceTest {
    private static final String[] FACE = {
        "int feed(int,int,int,int,int)",
        "boolean end(int)",
        "int lift(int,int,int,int,int) IndexOutOfBoundsException IllegalArgumentException UnsupportedOperationException",
        "int slope(int,int,int,int,int) IndexOutOfBoundsException IllegalArgumentException UnsupportedOperationException",
        "int rule(int) IndexOutOfBoundsException IllegalArgumentException IllegalStateException",
        "boolean unrule(int) IndexOutOfBoundsException",
        "int fault(int)",
        "boolean open(int) IndexOutOfBoundsException",
        "boolean runs(int) IndexOutOfBoundsException",
        "void wind(int) IllegalArgumentException",
        "boolean stop(int,boolean) IndexOutOfBoundsException",
        "int group(int,int,int) IndexOutOfBoundsException IllegalArgumentException UnsupportedOperationException",
        "int step(int) IllegalArgumentException",
        "int look(int,int) IndexOutOfBoundsException NoSuchElementException",
        "int row(int,int) IndexOutOfBoundsException",
        "int people(int)",
        "int snow(int,boolean,int) IndexOutOfBoundsException IllegalArgumentException",
        "int melt(int,int) IndexOutOfBoundsException IllegalArgumentException",
        "int push(int) IndexOutOfBoundsException",
        "int cell(int,int) IndexOutOfBoundsException NoSuchElementException",
        "int link(int,int,int) IndexOutOfBoundsException IllegalArgumentException UnsupportedOperationException",
        "void want(int,int) IndexOutOfBoundsException IllegalArgumentException",
        "long least()",
        "void price(int,int) IndexOutOfBoundsException IllegalArgumentException",
        "long judge() IllegalStateException",
        "long count(int)",
    };

    public static void main(String[] args) {
        Check.due("NONE", SkiHill.NONE, -1);
        Check.due("the class is public and final", SkiHill.class.getModifiers(), Modifier.PUBLIC | Modifier.FINAL);
        Set<String> names = methods();
        fields(SkiHill.class, true);
        for (Constructor<?> made : SkiHill.class.getDeclaredConstructors()) {
            Check.due("one public constructor: " + made, made.getModifiers() == Modifier.PUBLIC && made.getParameterCount() == 0, true);
        }
        for (Class<?> inside : SkiHill.class.getDeclaredClasses()) {
            int modifiers = inside.getModifiers();
            boolean hidden = !Modifier.isPublic(modifiers) && !Modifier.isProtected(modifiers) && Modifier.isStatic(modifiers);
            Check.due(inside + " is static and hidden", hidden, true);
            fields(inside, false);
            for (Method method : inside.getDeclaredMethods()) {
                Check.due(inside + " has a method of the face's name " + method.getName(), names.contains(method.getName()), false);
            }
        }
        Check.close();
    }

    private static Set<String> methods() {
        Set<String> due = new TreeSet<>(Set.of(FACE));
        Set<String> names = new TreeSet<>();
        for (Method method : SkiHill.class.getDeclaredMethods()) {
            if (Modifier.isPublic(method.getModifiers())) {
                names.add(method.getName());
                Check.due("face: " + told(method), due.remove(told(method)), true);
            }
        }
        for (String missing : due) {
            Check.due("face lacks " + missing, false, true);
        }
        for (Method method : SkiHill.class.getDeclaredMethods()) {
            if (!Modifier.isPublic(method.getModifiers())) {
                Check.due(method + " is private", Modifier.isPrivate(method.getModifiers()), true);
                Check.due(method + " bears a name of the face", names.contains(method.getName()), false);
            }
        }
        return names;
    }

    private static String told(Method method) {
        StringBuilder text = new StringBuilder();
        text.append(method.getReturnType().getSimpleName()).append(' ').append(method.getName()).append('(');
        String between = "";
        for (Class<?> type : method.getParameterTypes()) {
            text.append(between).append(type.getSimpleName());
            between = ",";
        }
        text.append(')');
        for (Class<?> thrown : method.getExceptionTypes()) {
            text.append(' ').append(thrown.getSimpleName());
        }
        return text.toString();
    }

    private static void fields(Class<?> of, boolean outer) {
        for (Field field : of.getDeclaredFields()) {
            int modifiers = field.getModifiers();
            if (Modifier.isStatic(modifiers)) {
                Check.due(field + " is final", Modifier.isFinal(modifiers), true);
            }
            boolean none = field.getName().equals("NONE");
            if (outer) {
                Check.due(field + " is private", Modifier.isPrivate(modifiers) != none, true);
            } else {
                Check.due(field + " is hidden", Modifier.isPublic(modifiers) || Modifier.isProtected(modifiers), false);
            }
        }
    }
}
