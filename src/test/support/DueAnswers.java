import java.lang.reflect.InvocationTargetException;
import java.lang.reflect.Method;
import java.lang.reflect.Modifier;
import java.util.NoSuchElementException;
import java.util.TreeMap;
import java.util.function.Function;
import java.util.function.Supplier;

/** What the tests share: how they ask, how they are run, and objects made ready for them. */
abstract class DueAnswers {
    static final int LIMIT = 200;
    /** What an object answers after so many calls is free, so no test asks it more. */
    static final int CALLS = 512;
    static final int LEAST_INT = Integer.MIN_VALUE;
    static final int GREATEST_INT = Integer.MAX_VALUE;

    private static String asked = "";
    private static int wrong = 0;

    // How a test asks.

    static void asking(String name) {
        asked = name;
    }

    /** The call answers what is due, a class of exceptions being due where the call throws. */
    static void due(Object want, Supplier<Object> call) {
        Object got;
        try {
            got = call.get();
        } catch (RuntimeException e) {
            got = e.getClass();
        }
        if (!want.equals(got)) {
            tellWrong("line " + lineOfTheTest() + ": answered " + got + ", due is " + want);
        }
    }

    /** Asked of a new object, the call throws the error, and all stays that the object held. */
    static void dueNoChange(Class<?> error, Supplier<HeapAndDeque> making,
            Function<HeapAndDeque, Object> call) {
        HeapAndDeque x = making.get();
        due(error, () -> call.apply(x));
        due(contents(making.get()), () -> contents(x));
    }

    static void dueQueue(HeapAndDeque x, int... numbers) {
        due(numbers.length, x::size);
        for (int number : numbers) {
            due(number, x::poll);
        }
        due(NoSuchElementException.class, x::poll);
    }

    static void duePairs(HeapAndDeque x, long... told) {
        due(told.length, x::sizePairs);
        for (long pair : told) {
            due(pair, x::pollPair);
        }
        due(NoSuchElementException.class, x::pollPair);
    }

    static void dueRow(HeapAndDeque x, int... numbers) {
        due(numbers.length, x::length);
        for (int i = 0; i < numbers.length; i++) {
            int place = i;
            due(numbers[place], () -> x.at(place));
        }
        due(IndexOutOfBoundsException.class, () -> x.at(numbers.length));
    }

    /** All that the object holds, which it holds no longer then. */
    private static String contents(HeapAndDeque x) {
        StringBuilder text = new StringBuilder();
        int numbers = x.size();
        text.append(numbers).append(" in the queue:");
        for (int i = 0; i < numbers; i++) {
            text.append(' ').append(x.poll());
        }
        int pairs = x.sizePairs();
        text.append(", ").append(pairs).append(" pairs:");
        for (int i = 0; i < pairs; i++) {
            text.append(' ').append(x.pollPair());
        }
        int length = x.length();
        text.append(", ").append(length).append(" in the row:");
        for (int i = 0; i < length; i++) {
            text.append(' ').append(x.removeFirst());
        }
        return text.toString();
    }

    private static int lineOfTheTest() {
        for (StackTraceElement frame : new Throwable().getStackTrace()) {
            if (!frame.getClassName().equals(DueAnswers.class.getName())) {
                return frame.getLineNumber();
            }
        }
        return 0;
    }

    private static void tellWrong(String what) {
        wrong++;
        System.out.println(asked + ", " + what);
    }

    // Objects made ready.

    static HeapAndDeque withQueue(int... numbers) {
        HeapAndDeque x = new HeapAndDeque();
        for (int number : numbers) {
            x.offer(number);
        }
        return x;
    }

    static HeapAndDeque withPairs(int... keysAndTags) {
        HeapAndDeque x = new HeapAndDeque();
        for (int i = 0; i < keysAndTags.length; i += 2) {
            x.offerPair(keysAndTags[i], keysAndTags[i + 1]);
        }
        return x;
    }

    static HeapAndDeque withRow(int... numbers) {
        HeapAndDeque x = new HeapAndDeque();
        for (int number : numbers) {
            x.addLast(number);
        }
        return x;
    }

    /** The queue holds 0 to 199. */
    static HeapAndDeque withFullQueue() {
        return withQueue(mixed(LIMIT));
    }

    /** The queue of pairs holds 0 with the tag 0, 1 with 1 .. 199 with 199. */
    static HeapAndDeque withFullPairs() {
        return withPairs(twice(mixed(LIMIT)));
    }

    /** The row stands as 0, 1 .. 199. */
    static HeapAndDeque withFullRow() {
        return withRow(upTo(LIMIT));
    }

    /** 0, 1, 2 .. count - 1, but mixed: 77 and each count used here have no common divisor. */
    static int[] mixed(int count) {
        int[] numbers = new int[count];
        for (int i = 0; i < count; i++) {
            numbers[i] = i * 77 % count;
        }
        return numbers;
    }

    static int[] upTo(int count) {
        int[] numbers = new int[count];
        for (int i = 0; i < count; i++) {
            numbers[i] = i;
        }
        return numbers;
    }

    /** The same number count times. */
    static int[] like(int number, int count) {
        int[] numbers = new int[count];
        java.util.Arrays.fill(numbers, number);
        return numbers;
    }

    /** Each number two times in turn: keys, each with a tag like itself. */
    static int[] twice(int... numbers) {
        int[] doubled = new int[2 * numbers.length];
        for (int i = 0; i < doubled.length; i++) {
            doubled[i] = numbers[i / 2];
        }
        return doubled;
    }

    // How tests are run.

    /** Runs each package-visible static method without parameters as a test, then ends. */
    static void runTestsOf(Class<?> tests) {
        TreeMap<String, Method> found = new TreeMap<>();
        for (Method method : tests.getDeclaredMethods()) {
            if (method.getModifiers() == Modifier.STATIC && !method.isSynthetic()
                    && method.getParameterCount() == 0) {
                found.put(method.getName(), method);
            }
        }
        asking(tests.getName());
        if (found.isEmpty()) {
            tellWrong("no test found");
        }
        for (Method test : found.values()) {
            runTest(test);
        }
        end(found.size() + " tests: ");
    }

    private static void runTest(Method test) {
        asking(test.getName());
        try {
            test.invoke(null);
        } catch (InvocationTargetException e) {
            tellWrong("thrown was " + e.getCause());
        } catch (IllegalAccessException e) {
            tellWrong("not run: " + e);
        }
    }

    static void end(String what) {
        System.out.println(what
                + (wrong == 0 ? "all answers are as due" : wrong + " are not as due"));
        if (wrong != 0) {
            System.exit(1);
        }
    }
}
