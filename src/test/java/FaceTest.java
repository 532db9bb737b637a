import java.lang.reflect.Constructor;
import java.lang.reflect.Field;
import java.lang.reflect.Method;
import java.lang.reflect.Modifier;
import java.util.Arrays;
import java.util.TreeSet;

/** The class shows exactly the document's face, exceptions included, and nothing else. */
public final class FaceTest {
    private static final String STATE = " throws IllegalStateException";
    private static final String NONE = " throws NoSuchElementException";
    private static final String TAG = " throws IllegalArgumentException";
    private static final String PLACE = " throws IndexOutOfBoundsException";

    private static final String[] FACE = {
        "int offer(int)" + STATE,
        "int add(int)" + STATE,
        "int peek()" + NONE,
        "int poll()" + NONE,
        "boolean remove(int)",
        "boolean contains(int)",
        "int size()",
        "int clear()",
        "int addAll()" + STATE,
        "int drain()" + STATE,
        "int offerPair(int,int)" + TAG + ",IllegalStateException",
        "long peekPair()" + NONE,
        "long pollPair()" + NONE,
        "boolean removePair(int,int)" + TAG,
        "boolean containsPair(int,int)" + TAG,
        "int sizePairs()",
        "int clearPairs()",
        "int drainPairs()" + STATE,
        "int addFirst(int)" + STATE,
        "int addLast(int)" + STATE,
        "int getFirst()" + NONE,
        "int getLast()" + NONE,
        "int removeFirst()" + NONE,
        "int removeLast()" + NONE,
        "int push(int)" + STATE,
        "int pop()" + NONE,
        "boolean removeFirstOccurrence(int)",
        "boolean removeLastOccurrence(int)",
        "boolean has(int)",
        "int length()",
        "int wipe()",
        "int at(int)" + PLACE,
        "int back(int)" + PLACE,
        "int dropLike(int)",
        "long walk()",
        "long walkBack()",
    };

    private static int wrong = 0;

    private static void due(boolean holds, String what) {
        if (!holds) {
            wrong++;
            System.out.println("not so: " + what);
        }
    }

    private static String names(Class<?>[] types) {
        StringBuilder text = new StringBuilder();
        for (Class<?> type : types) {
            text.append(text.length() == 0 ? "" : ",").append(type.getSimpleName());
        }
        return text.toString();
    }

    private static String lineOf(Method method) {
        String errors = names(method.getExceptionTypes());
        return method.getReturnType().getSimpleName() + " " + method.getName() + "("
                + names(method.getParameterTypes()) + ")"
                + (errors.isEmpty() ? "" : " throws " + errors);
    }

    private static void methods() {
        TreeSet<String> found = new TreeSet<>();
        TreeSet<String> publicNames = new TreeSet<>();
        TreeSet<String> privateNames = new TreeSet<>();
        for (Method method : HeapAndDeque.class.getDeclaredMethods()) {
            if (Modifier.isPrivate(method.getModifiers()) || method.isSynthetic()) {
                privateNames.add(method.getName());
            } else {
                due(method.getModifiers() == Modifier.PUBLIC, "only public: " + method);
                found.add(lineOf(method));
                publicNames.add(method.getName());
            }
        }
        TreeSet<String> face = new TreeSet<>(Arrays.asList(FACE));
        due(found.equals(face), "the face is " + face + ", found is " + found);
        privateNames.retainAll(publicNames);
        due(privateNames.isEmpty(), "no private method bears a public name: " + privateNames);
    }

    private static void otherMembers() {
        for (Field field : HeapAndDeque.class.getDeclaredFields()) {
            due(Modifier.isPrivate(field.getModifiers()), "private: " + field);
            due(Modifier.isFinal(field.getModifiers())
                    || !Modifier.isStatic(field.getModifiers()), "no static state: " + field);
        }
        Constructor<?>[] made = HeapAndDeque.class.getDeclaredConstructors();
        due(made.length == 1 && made[0].getParameterCount() == 0
                && made[0].getModifiers() == Modifier.PUBLIC, "one public constructor");
        for (Class<?> inside : HeapAndDeque.class.getDeclaredClasses()) {
            due(Modifier.isStatic(inside.getModifiers())
                    && !Modifier.isPublic(inside.getModifiers())
                    && !Modifier.isProtected(inside.getModifiers()), "private: " + inside);
        }
    }

    public static void main(String[] args) {
        int modifiers = HeapAndDeque.class.getModifiers();
        due(modifiers == (Modifier.PUBLIC | Modifier.FINAL), "a public final class");
        due(HeapAndDeque.class.getPackageName().isEmpty(), "no package");
        methods();
        otherMembers();
        System.out.println(wrong == 0 ? "the face is as due" : wrong + " are not as due");
        if (wrong != 0) {
            System.exit(1);
        }
    }
}
