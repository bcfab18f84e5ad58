import java.lang.reflect.Constructor;
import java.lang.reflect.Field;
import java.lang.reflect.Method;
import java.lang.reflect.Modifier;
import java.util.Arrays;
import java.util.Set;
import java.util.TreeSet;

/** The public face, and the rules of the language about members that can be seen from outside. */
public final class FaceTest {
    private static final Set<String> FACE = Set.of("int feed(int)", "int feedAll(long, int)",
            "int clear()", "int count(int)", "long build(int)", "int length(int)",
            "int poke(int, int)", "int load()", "int code(int)", "int encode()", "int decode()",
            "int pack()", "int unpack()", "int push(int, int)", "int cut(int)", "int bit(int)",
            "int turn(int)", "int out(int)", "int place()", "int key()", "int keyBit(int)",
            "int told(int)");

    private FaceTest() {
    }

    public static void main(String[] args) {
        Class<?> smith = PrefixSmith.class;
        isTrue("public and final", Modifier.isPublic(smith.getModifiers())
                && Modifier.isFinal(smith.getModifiers()));
        Due.due("NONE", PrefixSmith.NONE, -1);
        methods(smith);
        fields(smith);
        constructors(smith);
        for (Class<?> inside : smith.getDeclaredClasses()) {
            isTrue(inside + " is static and not public", Modifier.isStatic(inside.getModifiers())
                    && !Modifier.isPublic(inside.getModifiers())
                    && !Modifier.isProtected(inside.getModifiers()));
            fewFields(inside);
        }
        fewFields(smith);
        isTrue("at most twelve classes", smith.getDeclaredClasses().length < 12);
        Due.finish();
    }

    private static void isTrue(String what, boolean is) {
        Due.due(what, is ? 1 : 0, 1);
    }

    private static void methods(Class<?> smith) {
        Set<String> found = new TreeSet<>();
        Set<String> names = new TreeSet<>();
        for (String call : FACE) {
            names.add(call.substring(call.indexOf(' ') + 1, call.indexOf('(')));
        }
        for (Method method : smith.getDeclaredMethods()) {
            if (Modifier.isPrivate(method.getModifiers())) {
                isTrue(method + " has a name of its own", !names.contains(method.getName()));
            } else {
                String types = Arrays.toString(method.getParameterTypes());
                found.add(method.getReturnType() + " " + method.getName()
                        + types.replace('[', '(').replace(']', ')'));
                isTrue(method + " is public, of the object", Modifier.isPublic(method.getModifiers())
                        && !Modifier.isStatic(method.getModifiers()));
            }
            isTrue(method + " has at most seven parameters", method.getParameterCount() <= 7);
        }
        isTrue("the methods of the face, no others: " + found, found.equals(FACE));
    }

    private static void fields(Class<?> smith) {
        for (Field field : smith.getDeclaredFields()) {
            int how = field.getModifiers();
            boolean isNone = field.getName().equals("NONE") && how == (Modifier.PUBLIC
                    | Modifier.STATIC | Modifier.FINAL);
            isTrue(field + " is private", isNone || Modifier.isPrivate(how));
        }
    }

    private static void constructors(Class<?> smith) {
        Due.due("constructors", smith.getDeclaredConstructors().length, 1);
        for (Constructor<?> constructor : smith.getDeclaredConstructors()) {
            isTrue("PrefixSmith(int, int)", Modifier.isPublic(constructor.getModifiers())
                    && Arrays.equals(constructor.getParameterTypes(),
                            new Class<?>[] {int.class, int.class}));
        }
    }

    private static void fewFields(Class<?> one) {
        int number = 0;
        for (Field field : one.getDeclaredFields()) {
            if (Modifier.isStatic(field.getModifiers())) {
                isTrue(field + " is final", Modifier.isFinal(field.getModifiers()));
            } else {
                number++;
            }
        }
        isTrue(one + " has at most twenty fields", number <= 20);
    }
}
