import java.util.ArrayDeque;
import java.util.ArrayList;
import java.util.Comparator;
import java.util.Iterator;
import java.util.List;
import java.util.NoSuchElementException;
import java.util.PriorityQueue;
import java.util.TreeSet;

/**
 * Long runs of calls, each answered by HeapAndDeque and by the library's PriorityQueue and
 * ArrayDeque. The runs are the same each time, and meet each exception of the document's face.
 */
public final class LibraryTest {
    private static final int RUNS = 4000;
    private static final int CALLS = 512;
    private static final int LIMIT = 200;

    private static final String[] NAMES = {
        "offer", "add", "peek", "poll", "remove", "contains", "size", "clear", "addAll", "drain",
        "offerPair", "peekPair", "pollPair", "removePair", "containsPair", "sizePairs",
        "clearPairs", "drainPairs", "addFirst", "addLast", "getFirst", "getLast", "removeFirst",
        "removeLast", "push", "pop", "removeFirstOccurrence", "removeLastOccurrence", "has",
        "length", "wipe", "at", "back", "dropLike", "walk", "walkBack",
    };

    /** The calls that fill; a run that prefers them reaches the limits. */
    private static final String[] FILLING = {
        "offer", "add", "offerPair", "addFirst", "addLast", "push",
    };

    /** The calls that empty at a blow; a run that avoids them keeps what it has. */
    private static final String[] EMPTYING = {
        "clear", "drain", "clearPairs", "drainPairs", "wipe", "addAll",
    };

    /** Each call with each exception that the document tells of it. */
    private static final String[] REFUSALS = {
        "offer throws.IllegalStateException", "add throws.IllegalStateException",
        "peek throws.NoSuchElementException", "poll throws.NoSuchElementException",
        "addAll throws.IllegalStateException", "drain throws.IllegalStateException",
        "offerPair throws.IllegalArgumentException", "offerPair throws.IllegalStateException",
        "peekPair throws.NoSuchElementException", "pollPair throws.NoSuchElementException",
        "removePair throws.IllegalArgumentException",
        "containsPair throws.IllegalArgumentException",
        "drainPairs throws.IllegalStateException",
        "addFirst throws.IllegalStateException", "addLast throws.IllegalStateException",
        "getFirst throws.NoSuchElementException", "getLast throws.NoSuchElementException",
        "removeFirst throws.NoSuchElementException", "removeLast throws.NoSuchElementException",
        "push throws.IllegalStateException", "pop throws.NoSuchElementException",
        "at throws.IndexOutOfBoundsException", "back throws.IndexOutOfBoundsException",
    };

    private static final TreeSet<String> met = new TreeSet<>();

    private record Pair(int key, int tag) {
        long told() {
            return key * 1000L + tag;
        }
    }

    /** What the document says, by the library's own classes. */
    private static final class Library {
        private final PriorityQueue<Integer> numbers = new PriorityQueue<>();
        private final PriorityQueue<Pair> pairs = new PriorityQueue<>(
                Comparator.comparingInt(Pair::key)
                        .thenComparing(Comparator.comparingInt(Pair::tag).reversed()));
        private final ArrayDeque<Integer> row = new ArrayDeque<>();

        private static void room(int count) {
            if (count > LIMIT) {
                throw new IllegalStateException();
            }
        }

        private static void inRange(int tag) {
            if (tag < 0 || tag > 999) {
                throw new IllegalArgumentException();
            }
        }

        private static long truth(boolean answer) {
            return answer ? 1 : 0;
        }

        private static <T> T there(T found) {
            if (found == null) {
                throw new NoSuchElementException();
            }
            return found;
        }

        private long put(int number) {
            room(numbers.size() + 1);
            numbers.add(number);
            return numbers.size();
        }

        private long putFirst(int number) {
            room(row.size() + 1);
            row.addFirst(number);
            return row.size();
        }

        private long putLast(int number) {
            room(row.size() + 1);
            row.addLast(number);
            return row.size();
        }

        private long addAll() {
            room(numbers.size() + row.size());
            numbers.addAll(row);
            return numbers.size();
        }

        private long drain() {
            int moved = numbers.size();
            room(row.size() + moved);
            while (!numbers.isEmpty()) {
                row.addLast(numbers.poll());
            }
            return moved;
        }

        private long putPair(int key, int tag) {
            inRange(tag);
            room(pairs.size() + 1);
            pairs.add(new Pair(key, tag));
            return pairs.size();
        }

        private long drainPairs() {
            int moved = pairs.size();
            room(row.size() + moved);
            while (!pairs.isEmpty()) {
                row.addLast(pairs.poll().key());
            }
            return moved;
        }

        private long takePair(int key, int tag) {
            inRange(tag);
            return truth(pairs.remove(new Pair(key, tag)));
        }

        private long holdsPair(int key, int tag) {
            inRange(tag);
            return truth(pairs.contains(new Pair(key, tag)));
        }

        private static long stepTo(int place, Iterator<Integer> walk, int count) {
            if (place < 0 || place >= count) {
                throw new IndexOutOfBoundsException();
            }
            for (int i = 0; i < place; i++) {
                walk.next();
            }
            return walk.next();
        }

        private long dropLike(int number) {
            int before = row.size();
            row.removeIf(held -> held == number);
            return before - row.size();
        }

        private static long sum(Iterator<Integer> walk) {
            long sum = 7;
            while (walk.hasNext()) {
                sum = 31 * sum + walk.next();
            }
            return sum;
        }

        private static int emptied(java.util.Collection<?> held) {
            int count = held.size();
            held.clear();
            return count;
        }

        long answer(String name, int a, int b) {
            return switch (name) {
                case "offer", "add" -> put(a);
                case "peek" -> there(numbers.peek());
                case "poll" -> there(numbers.poll());
                case "remove" -> truth(numbers.remove(a));
                case "contains" -> truth(numbers.contains(a));
                case "size" -> numbers.size();
                case "clear" -> emptied(numbers);
                case "addAll" -> addAll();
                case "drain" -> drain();
                case "offerPair" -> putPair(a, b);
                case "peekPair" -> there(pairs.peek()).told();
                case "pollPair" -> there(pairs.poll()).told();
                case "removePair" -> takePair(a, b);
                case "containsPair" -> holdsPair(a, b);
                case "sizePairs" -> pairs.size();
                case "clearPairs" -> emptied(pairs);
                case "drainPairs" -> drainPairs();
                case "addFirst", "push" -> putFirst(a);
                case "addLast" -> putLast(a);
                case "getFirst" -> row.getFirst();
                case "getLast" -> row.getLast();
                case "removeFirst" -> row.removeFirst();
                case "pop" -> row.pop();
                case "removeLast" -> row.removeLast();
                case "removeFirstOccurrence" -> truth(row.removeFirstOccurrence(a));
                case "removeLastOccurrence" -> truth(row.removeLastOccurrence(a));
                case "has" -> truth(row.contains(a));
                case "length" -> row.size();
                case "wipe" -> emptied(row);
                case "at" -> stepTo(b, row.iterator(), row.size());
                case "back" -> stepTo(b, row.descendingIterator(), row.size());
                case "dropLike" -> dropLike(a);
                case "walk" -> sum(row.iterator());
                case "walkBack" -> sum(row.descendingIterator());
                default -> throw new AssertionError(name);
            };
        }
    }

    private static long answer(HeapAndDeque x, String name, int a, int b) {
        return switch (name) {
            case "offer" -> x.offer(a);
            case "add" -> x.add(a);
            case "peek" -> x.peek();
            case "poll" -> x.poll();
            case "remove" -> x.remove(a) ? 1 : 0;
            case "contains" -> x.contains(a) ? 1 : 0;
            case "size" -> x.size();
            case "clear" -> x.clear();
            case "addAll" -> x.addAll();
            case "drain" -> x.drain();
            case "offerPair" -> x.offerPair(a, b);
            case "peekPair" -> x.peekPair();
            case "pollPair" -> x.pollPair();
            case "removePair" -> x.removePair(a, b) ? 1 : 0;
            case "containsPair" -> x.containsPair(a, b) ? 1 : 0;
            case "sizePairs" -> x.sizePairs();
            case "clearPairs" -> x.clearPairs();
            case "drainPairs" -> x.drainPairs();
            case "addFirst" -> x.addFirst(a);
            case "addLast" -> x.addLast(a);
            case "getFirst" -> x.getFirst();
            case "getLast" -> x.getLast();
            case "removeFirst" -> x.removeFirst();
            case "removeLast" -> x.removeLast();
            case "push" -> x.push(a);
            case "pop" -> x.pop();
            case "removeFirstOccurrence" -> x.removeFirstOccurrence(a) ? 1 : 0;
            case "removeLastOccurrence" -> x.removeLastOccurrence(a) ? 1 : 0;
            case "has" -> x.has(a) ? 1 : 0;
            case "length" -> x.length();
            case "wipe" -> x.wipe();
            case "at" -> x.at(b);
            case "back" -> x.back(b);
            case "dropLike" -> x.dropLike(a);
            case "walk" -> x.walk();
            case "walkBack" -> x.walkBack();
            default -> throw new AssertionError(name);
        };
    }

    private interface Answering {
        long answer();
    }

    private static String told(Answering call) {
        try {
            return Long.toString(call.answer());
        } catch (RuntimeException e) {
            return "throws." + e.getClass().getSimpleName();
        }
    }

    /** Numbers in a row that is always the same, so that a fault can be told and met again. */
    private static final class Chooser {
        private long state;

        Chooser(long seed) {
            state = seed * 0x9E3779B97F4A7C15L + 1;
        }

        int below(int bound) {
            state = state * 6364136223846793005L + 1442695040888963407L;
            return (int) ((state >>> 33) % bound);
        }

        private static boolean among(String name, String[] names) {
            for (String other : names) {
                if (other.equals(name)) {
                    return true;
                }
            }
            return false;
        }

        /**
         * Mood 0 takes all calls alike; 1 fills; 2 fills and seldom empties at a blow; 3 fills
         * the queue of pairs, which the other moods never bring to its limit.
         */
        String name(int mood) {
            if (mood == 3 && below(4) != 0) {
                return "offerPair";
            }
            if (mood > 0 && below(2) == 0) {
                return FILLING[below(FILLING.length)];
            }
            String name = NAMES[below(NAMES.length)];
            boolean spared = mood >= 2 && among(name, EMPTYING) && below(8) != 0;
            return spared ? "walk" : name;
        }

        int number(int spread) {
            return switch (below(12)) {
                case 0 -> Integer.MIN_VALUE + below(2);
                case 1 -> Integer.MAX_VALUE - below(2);
                default -> below(2 * spread + 1) - spread;
            };
        }

        int tagOrPlace() {
            return switch (below(10)) {
                case 0 -> -1 - below(2);
                case 1 -> 998 + below(4);
                case 2 -> below(2) == 0 ? Integer.MIN_VALUE : Integer.MAX_VALUE;
                case 3 -> 195 + below(10);
                case 4 -> below(200);
                default -> below(6);
            };
        }
    }

    private static boolean runHolds(int run) {
        Chooser chooser = new Chooser(run);
        HeapAndDeque x = new HeapAndDeque();
        Library library = new Library();
        int mood = run % 4;
        int spread = run / 4 % 2 == 0 ? 3 : 1000;
        List<String> calls = new ArrayList<>();
        for (int i = 0; i < CALLS; i++) {
            String name = chooser.name(mood);
            int a = chooser.number(spread);
            int b = chooser.tagOrPlace();
            String got = told(() -> answer(x, name, a, b));
            String want = told(() -> library.answer(name, a, b));
            calls.add(name + " with " + a + ", " + b + " answered " + got);
            if (!got.equals(want)) {
                System.out.println("run " + run + ", due last is " + want + ":");
                calls.forEach(System.out::println);
                return false;
            }
            if (got.startsWith("throws.")) {
                met.add(name + " " + got);
            }
        }
        return true;
    }

    /** Runs that never meet a refusal would say nothing of it, and still hold. */
    private static boolean allRefusalsAreMet() {
        TreeSet<String> missed = new TreeSet<>(List.of(REFUSALS));
        missed.removeAll(met);
        if (!missed.isEmpty()) {
            System.out.println("no run meets " + missed);
        }
        return missed.isEmpty();
    }

    public static void main(String[] args) {
        for (int run = 0; run < RUNS; run++) {
            if (!runHolds(run)) {
                System.exit(1);
            }
        }
        if (!allRefusalsAreMet()) {
            System.exit(1);
        }
        System.out.println(RUNS + " runs are answered as the library answers");
    }
}
