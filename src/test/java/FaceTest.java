import java.lang.reflect.Field;
import java.lang.reflect.Method;
import java.lang.reflect.Modifier;
import java.util.Arrays;
import java.util.TreeSet;

/** The face of the class is the document's, and nothing else can be seen of it. */
public final class FaceTest {
    private static final String[] FACE = {
        "int goTo(int) IllegalArgumentException",
        "int jump(int) IllegalStateException",
        "int next()",
        "int previous()",
        "int nextSmooth() IllegalStateException",
        "int goToSmooth(int) IllegalArgumentException",
        "int swap(int,int) IndexOutOfBoundsException",
        "int turn(int,int) IndexOutOfBoundsException IllegalArgumentException",
        "int carry(int,int) IndexOutOfBoundsException IllegalArgumentException",
        "int put(int,int) IndexOutOfBoundsException IllegalArgumentException IllegalStateException",
        "int take(int) IndexOutOfBoundsException IllegalStateException",
        "int append(int) IllegalArgumentException IllegalStateException",
        "int clearBuffer()",
        "int firstError()",
        "int read() IllegalArgumentException",
        "int undo() IllegalStateException",
        "int sign(int) IndexOutOfBoundsException",
        "int digit(int) IndexOutOfBoundsException",
        "int many(int) IllegalArgumentException",
        "int block(int,int) IllegalArgumentException",
        "int count(int) IllegalArgumentException",
        "int ifSwapped(int,int) IndexOutOfBoundsException",
        "int signOf(int,int) IndexOutOfBoundsException IllegalArgumentException",
        "int having(int,int,int,int) IndexOutOfBoundsException IllegalArgumentException",
        "int stepsTo(int) IllegalArgumentException",
        "int bestSwap(int) IllegalArgumentException",
        "double share()",
        "long digest()",
    };

    private FaceTest() {
    }

    private static String told(Method method) {
        StringBuilder text = new StringBuilder();
        text.append(method.getReturnType()).append(' ').append(method.getName()).append('(');
        for (int i = 0; i < method.getParameterCount(); i++) {
            text.append(i == 0 ? "" : ",").append(method.getParameterTypes()[i]);
        }
        text.append(')');
        for (Class<?> thrown : method.getExceptionTypes()) {
            text.append(' ').append(thrown.getSimpleName());
        }
        return text.toString();
    }

    private static boolean isPrivate(int modifiers) {
        return Modifier.isPrivate(modifiers);
    }

    public static void main(String[] args) throws Exception {
        Class<SignRanks> type = SignRanks.class;
        Check.same("the class's modifiers", type.getModifiers(), Modifier.PUBLIC | Modifier.FINAL);
        Check.holds("the class is below Object alone", type.getSuperclass() == Object.class);
        Check.same("interfaces", type.getInterfaces().length, 0);
        Check.same("constructors", type.getDeclaredConstructors().length, 1);
        Check.same("the constructor's modifiers", type.getConstructor().getModifiers(), Modifier.PUBLIC);

        TreeSet<String> seen = new TreeSet<>();
        TreeSet<String> names = new TreeSet<>();
        for (Method method : type.getDeclaredMethods()) {
            if (!isPrivate(method.getModifiers())) {
                seen.add(told(method));
                names.add(method.getName());
                Check.same(method + "'s modifiers", method.getModifiers(), Modifier.PUBLIC);
            }
        }
        TreeSet<String> due = new TreeSet<>(Arrays.asList(FACE));
        Check.holds("the methods are " + seen + ", due are " + due, seen.equals(due));

        for (Method method : type.getDeclaredMethods()) {
            boolean shared = isPrivate(method.getModifiers()) && names.contains(method.getName());
            Check.holds("a private method bears a public name: " + method, !shared);
        }
        for (Field field : type.getDeclaredFields()) {
            boolean constant = field.getName().equals("NONE");
            Check.holds("a field can be seen: " + field, constant != isPrivate(field.getModifiers()));
        }
        Field none = type.getField("NONE");
        int constant = Modifier.PUBLIC | Modifier.STATIC | Modifier.FINAL;
        Check.same("NONE's modifiers", none.getModifiers(), constant);
        Check.same("NONE", none.getInt(null), -1);
        for (Class<?> inside : type.getDeclaredClasses()) {
            boolean hidden = isPrivate(inside.getModifiers()) && Modifier.isStatic(inside.getModifiers());
            Check.holds("not private and static: " + inside, hidden);
        }
        Check.end("FaceTest");
    }
}
