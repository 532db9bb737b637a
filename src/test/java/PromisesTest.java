import java.util.NoSuchElementException;
import java.util.function.Supplier;

/** For each promise of the document: ordinary inputs, the edges that it names, and wrong inputs. */
public final class PromisesTest extends DueAnswers {
    /** The call throws the error, and counts and sums are the same afterwards. */
    private static void dueRefusal(HeapAndDeque x, Class<?> error, Supplier<Object> call) {
        int[] counts = {x.size(), x.sizePairs(), x.length()};
        long[] sums = {x.walk(), x.walkBack()};
        due(error, call);
        due(counts[0], x::size);
        due(counts[1], x::sizePairs);
        due(counts[2], x::length);
        due(sums[0], x::walk);
        due(sums[1], x::walkBack);
    }

    private static void newObject() {
        asking("1 a new object");
        HeapAndDeque x = new HeapAndDeque();
        dueQueue(x);
        duePairs(x);
        dueRow(x);
        due(7L, x::walk);
        HeapAndDeque other = new HeapAndDeque();
        x.offer(1);
        x.offerPair(1, 1);
        x.addLast(1);
        dueQueue(other);
        duePairs(other);
        dueRow(other);
    }

    private interface Putting {
        int put(HeapAndDeque x, int number);
    }

    private static void putsIntoQueue(Putting way) {
        HeapAndDeque x = new HeapAndDeque();
        due(1, () -> way.put(x, 4));
        due(2, () -> way.put(x, GREATEST_INT));
        due(3, () -> way.put(x, -4));
        due(4, () -> way.put(x, 4));
        due(5, () -> way.put(x, LEAST_INT));
        due(6, () -> way.put(x, 0));
        dueRow(x);
        duePairs(x);
        dueQueue(x, LEAST_INT, -4, 0, 4, 4, GREATEST_INT);

        int[] numbers = mixed(LIMIT);
        for (int i = 0; i < LIMIT; i++) {
            int number = numbers[i];
            due(i + 1, () -> way.put(x, number));
        }
        dueRefusal(x, IllegalStateException.class, () -> way.put(x, -1));
        due(0, x::poll);
        due(LIMIT, () -> way.put(x, 0));
        dueRefusal(x, IllegalStateException.class, () -> way.put(x, 0));
        dueQueue(x, upTo(LIMIT));
    }

    private static void offer() {
        asking("2 offer");
        putsIntoQueue(HeapAndDeque::offer);
    }

    private static void add() {
        asking("3 add");
        putsIntoQueue(HeapAndDeque::add);
    }

    private static void peek() {
        asking("4 peek");
        HeapAndDeque x = new HeapAndDeque();
        dueRefusal(x, NoSuchElementException.class, x::peek);
        x.offer(6);
        due(6, x::peek);
        x.offer(7);
        due(6, x::peek);
        x.offer(LEAST_INT);
        due(LEAST_INT, x::peek);
        due(LEAST_INT, x::peek);
        dueQueue(x, LEAST_INT, 6, 7);
        due(NoSuchElementException.class, x::peek);
        x.addLast(1);
        x.offerPair(1, 1);
        due(NoSuchElementException.class, x::peek);
    }

    private static void poll() {
        asking("5 poll");
        HeapAndDeque x = withQueue(9, -9, GREATEST_INT, 3, LEAST_INT, 3);
        due(LEAST_INT, x::poll);
        due(5, x::size);
        due(-9, x::poll);
        x.offer(-20);
        due(-20, x::poll);
        dueQueue(x, 3, 3, 9, GREATEST_INT);
        x.addLast(1);
        dueRefusal(x, NoSuchElementException.class, x::poll);
    }

    private static void remove() {
        asking("6 remove");
        HeapAndDeque x = withQueue(5, 1, 8, 5, LEAST_INT, GREATEST_INT);
        due(false, () -> x.remove(2));
        due(6, x::size);
        due(true, () -> x.remove(5));
        due(5, x::size);
        due(true, () -> x.contains(5));
        due(true, () -> x.remove(5));
        due(false, () -> x.remove(5));
        due(true, () -> x.remove(LEAST_INT));
        due(true, () -> x.remove(GREATEST_INT));
        dueQueue(x, 1, 8);
        due(false, () -> x.remove(1));
        x.addLast(3);
        due(false, () -> x.remove(3));
        due(1, x::length);

        HeapAndDeque full = withQueue(mixed(LIMIT));
        for (int i = 0; i < LIMIT; i += 2) {
            int number = i;
            due(true, () -> full.remove(number));
        }
        for (int i = 1; i < LIMIT; i += 2) {
            due(i, full::poll);
        }
        due(0, full::size);
    }

    private static void contains() {
        asking("7 contains");
        HeapAndDeque x = new HeapAndDeque();
        due(false, () -> x.contains(0));
        for (int number : new int[] {3, 1, 2, LEAST_INT, GREATEST_INT}) {
            x.offer(number);
            due(true, () -> x.contains(number));
        }
        due(true, () -> x.contains(1));
        due(true, () -> x.contains(3));
        due(false, () -> x.contains(0));
        due(false, () -> x.contains(4));
        due(5, x::size);
        x.poll();
        due(false, () -> x.contains(LEAST_INT));
        x.clear();
        due(false, () -> x.contains(2));
        x.addLast(2);
        due(false, () -> x.contains(2));
    }

    private static void size() {
        asking("8 size");
        HeapAndDeque x = new HeapAndDeque();
        due(0, x::size);
        x.addLast(1);
        x.offerPair(1, 1);
        due(0, x::size);
        x.offer(1);
        x.offer(1);
        due(2, x::size);
        x.peek();
        due(2, x::size);
        x.poll();
        due(1, x::size);
        due(LIMIT, withQueue(mixed(LIMIT))::size);
    }

    private static void clear() {
        asking("9 clear");
        HeapAndDeque x = withQueue(1, 2, 2);
        x.addLast(8);
        x.offerPair(8, 8);
        due(3, x::clear);
        due(0, x::clear);
        dueQueue(x);
        dueRow(x, 8);
        duePairs(x, 8008L);
        x.offer(5);
        dueQueue(x, 5);
        HeapAndDeque full = withQueue(mixed(LIMIT));
        due(LIMIT, full::clear);
        due(1, () -> full.offer(1));
    }

    private static void addAll() {
        asking("10 addAll");
        HeapAndDeque x = new HeapAndDeque();
        due(0, x::addAll);
        x.offer(4);
        due(1, x::addAll);
        x.addLast(5);
        x.addLast(-5);
        x.addLast(5);
        due(4, x::addAll);
        dueRow(x, 5, -5, 5);
        dueQueue(x, -5, 4, 5, 5);

        HeapAndDeque tight = withRow(mixed(101));
        due(101, tight::addAll);
        dueRefusal(tight, IllegalStateException.class, tight::addAll);
        due(0, tight::poll);
        dueRefusal(tight, IllegalStateException.class, tight::addAll);
        due(1, tight::poll);
        tight.removeLast();
        dueRefusal(tight, IllegalArgumentException.class, () -> tight.offerPair(0, -1));
        due(199, tight::addAll);
        due(200, () -> tight.offer(7));
        tight.wipe();
        due(200, tight::addAll);
        tight.addLast(1);
        dueRefusal(tight, IllegalStateException.class, tight::addAll);

        HeapAndDeque full = withRow(mixed(LIMIT));
        due(LIMIT, full::addAll);
        dueQueue(full, upTo(LIMIT));
    }

    private static void drain() {
        asking("11 drain");
        HeapAndDeque x = withQueue(3, LEAST_INT, GREATEST_INT, 3, -1);
        x.addLast(50);
        x.addLast(-50);
        due(5, x::drain);
        dueRow(x, 50, -50, LEAST_INT, -1, 3, 3, GREATEST_INT);
        due(0, x::drain);
        dueQueue(x);

        HeapAndDeque tight = withQueue(mixed(100));
        for (int i = 0; i < 101; i++) {
            tight.addLast(-i);
        }
        dueRefusal(tight, IllegalStateException.class, tight::drain);
        due(0, tight::peek);
        due(0, tight::removeFirst);
        due(100, tight::drain);
        due(200, tight::length);
        due(99, tight::getLast);
        due(0, () -> tight.at(100));
        due(0, tight::drain);
        tight.offer(1);
        dueRefusal(tight, IllegalStateException.class, tight::drain);

        HeapAndDeque full = withQueue(mixed(LIMIT));
        due(LIMIT, full::drain);
        dueRow(full, upTo(LIMIT));
    }

    private static void offerPair() {
        asking("12 offerPair");
        HeapAndDeque x = new HeapAndDeque();
        due(1, () -> x.offerPair(1, 0));
        due(2, () -> x.offerPair(1, 999));
        due(3, () -> x.offerPair(-1, 500));
        due(4, () -> x.offerPair(GREATEST_INT, 0));
        due(5, () -> x.offerPair(LEAST_INT, 999));
        due(6, () -> x.offerPair(1, 999));
        due(7, () -> x.offerPair(LEAST_INT, 0));
        due(8, () -> x.offerPair(GREATEST_INT, 999));
        for (int tag : new int[] {-1, 1000, LEAST_INT, GREATEST_INT}) {
            dueRefusal(x, IllegalArgumentException.class, () -> x.offerPair(1, tag));
        }
        dueQueue(x);
        dueRow(x);
        duePairs(x, -2147483647001L, -2147483648000L, -500L, 1999L, 1999L, 1000L,
                2147483647999L, 2147483647000L);

        HeapAndDeque full = withFullPairs();
        dueRefusal(full, IllegalStateException.class, () -> full.offerPair(0, 0));
        dueRefusal(full, IllegalArgumentException.class, () -> full.offerPair(0, 1000));
        dueRefusal(full, IllegalArgumentException.class, () -> full.offerPair(0, -1));
        due(0L, full::pollPair);
        due(LIMIT, () -> full.offerPair(-3, 3));
        due(-2997L, full::pollPair);
        for (int i = 1; i < LIMIT; i++) {
            due(i * 1001L, full::pollPair);
        }
    }

    private static void peekPair() {
        asking("13 peekPair");
        HeapAndDeque x = new HeapAndDeque();
        dueRefusal(x, NoSuchElementException.class, x::peekPair);
        x.offerPair(2, 3);
        due(2003L, x::peekPair);
        x.offerPair(2, 2);
        due(2003L, x::peekPair);
        x.offerPair(2, 4);
        due(2004L, x::peekPair);
        x.offerPair(-2, 0);
        due(-2000L, x::peekPair);
        due(-2000L, x::peekPair);
        x.offerPair(LEAST_INT, 1);
        due(-2147483647999L, x::peekPair);
        duePairs(x, -2147483647999L, -2000L, 2004L, 2003L, 2002L);
        x.offer(1);
        x.addLast(1);
        due(NoSuchElementException.class, x::peekPair);
    }

    private static void pollPair() {
        asking("14 pollPair");
        HeapAndDeque x = withPairs(0, 0, 0, 1, -1, 999, -1, 998, GREATEST_INT, 999, 0, 1);
        due(-1L, x::pollPair);
        due(5, x::sizePairs);
        due(-2L, x::pollPair);
        due(1L, x::pollPair);
        x.offerPair(0, 2);
        due(2L, x::pollPair);
        duePairs(x, 1L, 0L, 2147483647999L);
        x.offer(1);
        dueRefusal(x, NoSuchElementException.class, x::pollPair);
    }

    private static void removePair() {
        asking("15 removePair");
        HeapAndDeque x = withPairs(1, 5, 1, 6, 2, 5, 1, 5, LEAST_INT, 0, GREATEST_INT, 999);
        due(false, () -> x.removePair(1, 7));
        due(false, () -> x.removePair(3, 5));
        due(6, x::sizePairs);
        due(true, () -> x.removePair(1, 5));
        due(true, () -> x.containsPair(1, 5));
        due(5, x::sizePairs);
        due(true, () -> x.removePair(1, 5));
        due(false, () -> x.removePair(1, 5));
        for (int tag : new int[] {-1, 1000, LEAST_INT, GREATEST_INT}) {
            dueRefusal(x, IllegalArgumentException.class, () -> x.removePair(2, tag));
        }
        // Told as a long, 1 with 1005 would be 2 with 5: out of range all the same.
        dueRefusal(x, IllegalArgumentException.class, () -> x.removePair(1, 1005));
        due(true, () -> x.removePair(LEAST_INT, 0));
        due(true, () -> x.removePair(GREATEST_INT, 999));
        duePairs(x, 1006L, 2005L);
        due(false, () -> x.removePair(2, 5));

        HeapAndDeque full = withFullPairs();
        for (int i = 0; i < LIMIT; i += 2) {
            int key = i;
            due(true, () -> full.removePair(key, key));
        }
        for (int i = 1; i < LIMIT; i += 2) {
            due(i * 1001L, full::pollPair);
        }
    }

    private static void containsPair() {
        asking("16 containsPair");
        HeapAndDeque x = new HeapAndDeque();
        due(false, () -> x.containsPair(0, 0));
        int[] keys = {5, -5, LEAST_INT, GREATEST_INT, 0};
        int[] tags = {10, 0, 999, 999, 1};
        for (int i = 0; i < keys.length; i++) {
            int key = keys[i];
            int tag = tags[i];
            x.offerPair(key, tag);
            due(true, () -> x.containsPair(key, tag));
        }
        due(true, () -> x.containsPair(5, 10));
        due(false, () -> x.containsPair(5, 9));
        due(false, () -> x.containsPair(4, 10));
        due(false, () -> x.containsPair(-5, 999));
        for (int tag : new int[] {-1, 1000, LEAST_INT, GREATEST_INT}) {
            dueRefusal(x, IllegalArgumentException.class, () -> x.containsPair(0, tag));
        }
        due(5, x::sizePairs);
        x.pollPair();
        due(false, () -> x.containsPair(LEAST_INT, 999));
    }

    private static void sizePairs() {
        asking("17 sizePairs");
        HeapAndDeque x = new HeapAndDeque();
        due(0, x::sizePairs);
        x.offer(1);
        x.addLast(1);
        due(0, x::sizePairs);
        x.offerPair(1, 1);
        x.offerPair(1, 1);
        due(2, x::sizePairs);
        x.peekPair();
        due(2, x::sizePairs);
        x.pollPair();
        due(1, x::sizePairs);
        due(LIMIT, withFullPairs()::sizePairs);
    }

    private static void clearPairs() {
        asking("18 clearPairs");
        HeapAndDeque x = withPairs(1, 1, 1, 1, 2, 2);
        x.offer(8);
        x.addLast(8);
        due(3, x::clearPairs);
        due(0, x::clearPairs);
        duePairs(x);
        dueRow(x, 8);
        dueQueue(x, 8);
        x.offerPair(3, 3);
        duePairs(x, 3003L);
        HeapAndDeque full = withFullPairs();
        due(LIMIT, full::clearPairs);
        due(1, () -> full.offerPair(1, 1));
    }

    private static void drainPairs() {
        asking("19 drainPairs");
        HeapAndDeque x = withPairs(3, 0, LEAST_INT, 0, GREATEST_INT, 999, 3, 7, -1, 999,
                LEAST_INT, 999, GREATEST_INT, 0);
        x.addLast(50);
        x.offer(2);
        due(7, x::drainPairs);
        dueRow(x, 50, LEAST_INT, LEAST_INT, -1, 3, 3, GREATEST_INT, GREATEST_INT);
        due(0, x::drainPairs);
        duePairs(x);
        dueQueue(x, 2);

        HeapAndDeque tight = withRow(mixed(199));
        tight.offerPair(-7, 1);
        tight.offerPair(-7, 2);
        dueRefusal(tight, IllegalStateException.class, tight::drainPairs);
        due(-6998L, tight::peekPair);
        due(0, tight::removeFirst);
        due(2, tight::drainPairs);
        due(LIMIT, tight::length);
        due(-7, tight::getLast);
        due(-7, () -> tight.back(1));
        due(0, tight::drainPairs);
        tight.offerPair(1, 1);
        dueRefusal(tight, IllegalStateException.class, tight::drainPairs);

        HeapAndDeque full = withFullPairs();
        due(LIMIT, full::drainPairs);
        dueRow(full, upTo(LIMIT));
    }

    private static void putsAtFirstEnd(Putting way) {
        HeapAndDeque x = new HeapAndDeque();
        due(1, () -> way.put(x, 4));
        due(2, () -> way.put(x, LEAST_INT));
        due(3, () -> way.put(x, GREATEST_INT));
        due(4, () -> way.put(x, 4));
        dueRow(x, 4, GREATEST_INT, LEAST_INT, 4);
        dueQueue(x);
        duePairs(x);
        x.wipe();
        for (int i = LIMIT - 1; i >= 0; i--) {
            int number = i;
            due(LIMIT - i, () -> way.put(x, number));
        }
        dueRefusal(x, IllegalStateException.class, () -> way.put(x, 5));
        dueRow(x, upTo(LIMIT));
        x.removeLast();
        due(LIMIT, () -> way.put(x, -1));
        due(-1, x::getFirst);
        due(198, x::getLast);
    }

    private static void addFirst() {
        asking("20 addFirst");
        putsAtFirstEnd(HeapAndDeque::addFirst);
    }

    private static void addLast() {
        asking("21 addLast");
        HeapAndDeque x = new HeapAndDeque();
        due(1, () -> x.addLast(4));
        due(2, () -> x.addLast(LEAST_INT));
        due(3, () -> x.addLast(GREATEST_INT));
        due(4, () -> x.addLast(4));
        dueRow(x, 4, LEAST_INT, GREATEST_INT, 4);
        dueQueue(x);
        duePairs(x);
        x.wipe();
        for (int i = 0; i < LIMIT; i++) {
            int number = i;
            due(i + 1, () -> x.addLast(number));
        }
        dueRefusal(x, IllegalStateException.class, () -> x.addLast(5));
        dueRow(x, upTo(LIMIT));
        x.removeFirst();
        due(LIMIT, () -> x.addLast(-1));
        due(1, x::getFirst);
        due(-1, x::getLast);
    }

    private static void getFirst() {
        asking("22 getFirst");
        HeapAndDeque x = withQueue(1);
        x.offerPair(1, 1);
        dueRefusal(x, NoSuchElementException.class, x::getFirst);
        x.addLast(6);
        x.addLast(7);
        due(6, x::getFirst);
        due(6, x::getFirst);
        x.addFirst(LEAST_INT);
        due(LEAST_INT, x::getFirst);
        dueRow(x, LEAST_INT, 6, 7);
        x.wipe();
        due(NoSuchElementException.class, x::getFirst);
    }

    private static void getLast() {
        asking("23 getLast");
        HeapAndDeque x = withQueue(1);
        x.offerPair(1, 1);
        dueRefusal(x, NoSuchElementException.class, x::getLast);
        x.addFirst(6);
        x.addFirst(7);
        due(6, x::getLast);
        due(6, x::getLast);
        x.addLast(GREATEST_INT);
        due(GREATEST_INT, x::getLast);
        dueRow(x, 7, 6, GREATEST_INT);
        x.wipe();
        due(NoSuchElementException.class, x::getLast);
    }

    private interface Taking {
        int take(HeapAndDeque x);
    }

    private static void takesAtFirstEnd(Taking way) {
        HeapAndDeque x = withRow(9, LEAST_INT, 9, 4);
        due(9, () -> way.take(x));
        dueRow(x, LEAST_INT, 9, 4);
        due(LEAST_INT, () -> way.take(x));
        x.addFirst(1);
        due(1, () -> way.take(x));
        due(9, () -> way.take(x));
        due(4, () -> way.take(x));
        x.offer(1);
        x.offerPair(1, 1);
        dueRefusal(x, NoSuchElementException.class, () -> way.take(x));
        HeapAndDeque full = withRow(upTo(LIMIT));
        for (int i = 0; i < LIMIT; i++) {
            due(i, () -> way.take(full));
        }
        dueRow(full);
    }

    private static void removeFirst() {
        asking("24 removeFirst");
        takesAtFirstEnd(HeapAndDeque::removeFirst);
    }

    private static void removeLast() {
        asking("25 removeLast");
        HeapAndDeque x = withRow(4, 9, GREATEST_INT, 9);
        due(9, x::removeLast);
        dueRow(x, 4, 9, GREATEST_INT);
        due(GREATEST_INT, x::removeLast);
        x.addLast(1);
        due(1, x::removeLast);
        due(9, x::removeLast);
        due(4, x::removeLast);
        x.offer(1);
        x.offerPair(1, 1);
        dueRefusal(x, NoSuchElementException.class, x::removeLast);
        HeapAndDeque full = withRow(upTo(LIMIT));
        for (int i = LIMIT - 1; i >= 0; i--) {
            due(i, full::removeLast);
        }
        dueRow(full);
    }

    private static void push() {
        asking("26 push");
        putsAtFirstEnd(HeapAndDeque::push);
    }

    private static void pop() {
        asking("27 pop");
        takesAtFirstEnd(HeapAndDeque::pop);
    }

    private static void removeFirstOccurrence() {
        asking("28 removeFirstOccurrence");
        HeapAndDeque x = withRow(1, 2, 3, 2, 4, 2);
        due(false, () -> x.removeFirstOccurrence(5));
        dueRow(x, 1, 2, 3, 2, 4, 2);
        due(true, () -> x.removeFirstOccurrence(2));
        dueRow(x, 1, 3, 2, 4, 2);
        due(true, () -> x.removeFirstOccurrence(1));
        due(true, () -> x.removeFirstOccurrence(2));
        due(true, () -> x.removeFirstOccurrence(2));
        dueRow(x, 3, 4);
        due(false, () -> x.removeFirstOccurrence(2));
        x.offer(2);
        due(false, () -> x.removeFirstOccurrence(2));
        due(true, () -> x.removeFirstOccurrence(3));
        due(true, () -> x.removeFirstOccurrence(4));
        due(false, () -> x.removeFirstOccurrence(4));
        dueRow(x);

        HeapAndDeque full = withRow(upTo(LIMIT));
        due(true, () -> full.removeFirstOccurrence(0));
        due(true, () -> full.removeFirstOccurrence(199));
        due(198, full::length);
        due(1, full::getFirst);
        due(198, full::getLast);
    }

    private static void removeLastOccurrence() {
        asking("29 removeLastOccurrence");
        HeapAndDeque x = withRow(2, 1, 2, 3, 2, 4);
        due(false, () -> x.removeLastOccurrence(5));
        dueRow(x, 2, 1, 2, 3, 2, 4);
        due(true, () -> x.removeLastOccurrence(2));
        dueRow(x, 2, 1, 2, 3, 4);
        due(true, () -> x.removeLastOccurrence(4));
        due(true, () -> x.removeLastOccurrence(2));
        due(true, () -> x.removeLastOccurrence(2));
        dueRow(x, 1, 3);
        due(false, () -> x.removeLastOccurrence(2));
        x.offer(2);
        due(false, () -> x.removeLastOccurrence(2));
        due(true, () -> x.removeLastOccurrence(3));
        due(true, () -> x.removeLastOccurrence(1));
        due(false, () -> x.removeLastOccurrence(1));
        dueRow(x);

        HeapAndDeque full = withRow(upTo(LIMIT));
        due(true, () -> full.removeLastOccurrence(0));
        due(true, () -> full.removeLastOccurrence(199));
        due(198, full::length);
        due(1, full::getFirst);
        due(198, full::getLast);
    }

    private static void has() {
        asking("30 has");
        HeapAndDeque x = withQueue(2);
        due(false, () -> x.has(2));
        due(false, () -> x.has(0));
        x.addLast(2);
        x.addLast(LEAST_INT);
        x.addLast(GREATEST_INT);
        due(true, () -> x.has(2));
        due(true, () -> x.has(LEAST_INT));
        due(true, () -> x.has(GREATEST_INT));
        due(false, () -> x.has(3));
        dueRow(x, 2, LEAST_INT, GREATEST_INT);
        x.removeLast();
        due(false, () -> x.has(GREATEST_INT));
        x.removeFirst();
        due(false, () -> x.has(2));
        x.wipe();
        due(false, () -> x.has(LEAST_INT));
    }

    private static void length() {
        asking("31 length");
        HeapAndDeque x = withQueue(1);
        x.offerPair(1, 1);
        due(0, x::length);
        x.addLast(1);
        x.addFirst(1);
        due(2, x::length);
        x.getFirst();
        due(2, x::length);
        x.removeLast();
        due(1, x::length);
        due(LIMIT, withRow(mixed(LIMIT))::length);
    }

    private static void wipe() {
        asking("32 wipe");
        HeapAndDeque x = withRow(1, 2, 2);
        x.offer(8);
        x.offerPair(8, 8);
        due(3, x::wipe);
        due(0, x::wipe);
        dueRow(x);
        due(7L, x::walk);
        dueQueue(x, 8);
        duePairs(x, 8008L);
        x.addFirst(5);
        dueRow(x, 5);
        HeapAndDeque full = withRow(mixed(LIMIT));
        due(LIMIT, full::wipe);
        due(1, () -> full.addLast(1));
    }

    private static void duePlaceErrors(HeapAndDeque x, int... places) {
        for (int place : places) {
            dueRefusal(x, IndexOutOfBoundsException.class, () -> x.at(place));
            dueRefusal(x, IndexOutOfBoundsException.class, () -> x.back(place));
        }
    }

    private static void at() {
        asking("33 at");
        HeapAndDeque x = new HeapAndDeque();
        duePlaceErrors(x, 0, 1, -1, 199, 200, LEAST_INT, GREATEST_INT);
        x.addLast(10);
        x.addLast(LEAST_INT);
        x.addFirst(GREATEST_INT);
        due(GREATEST_INT, () -> x.at(0));
        due(10, () -> x.at(1));
        due(LEAST_INT, () -> x.at(2));
        duePlaceErrors(x, -1, 3, 4, 199, 200, LEAST_INT, GREATEST_INT);
        dueRow(x, GREATEST_INT, 10, LEAST_INT);
        HeapAndDeque full = withRow(upTo(LIMIT));
        due(199, () -> full.at(199));
        duePlaceErrors(full, -1, 200, LEAST_INT, GREATEST_INT);
    }

    private static void back() {
        asking("34 back");
        HeapAndDeque x = withRow(10, LEAST_INT);
        x.addFirst(GREATEST_INT);
        due(LEAST_INT, () -> x.back(0));
        due(10, () -> x.back(1));
        due(GREATEST_INT, () -> x.back(2));
        duePlaceErrors(x, -1, 3, 4, 199, 200, LEAST_INT, GREATEST_INT);
        dueRow(x, GREATEST_INT, 10, LEAST_INT);
        HeapAndDeque full = withRow(upTo(LIMIT));
        due(199, () -> full.back(0));
        due(0, () -> full.back(199));
        duePlaceErrors(full, -1, 200, LEAST_INT, GREATEST_INT);
    }

    private static void dropLike() {
        asking("35 dropLike");
        HeapAndDeque x = new HeapAndDeque();
        due(0, () -> x.dropLike(0));
        for (int number : new int[] {2, 2, 1, 2, 3, 3, 2, 2}) {
            x.addLast(number);
        }
        x.offer(2);
        due(0, () -> x.dropLike(4));
        dueRow(x, 2, 2, 1, 2, 3, 3, 2, 2);
        due(5, () -> x.dropLike(2));
        dueRow(x, 1, 3, 3);
        due(0, () -> x.dropLike(2));
        due(2, () -> x.dropLike(3));
        dueRow(x, 1);
        due(1, () -> x.dropLike(1));
        dueRow(x);
        dueQueue(x, 2);

        HeapAndDeque full = new HeapAndDeque();
        for (int i = 0; i < LIMIT; i++) {
            full.addLast(LEAST_INT);
        }
        due(LIMIT, () -> full.dropLike(LEAST_INT));
        due(1, () -> full.addLast(3));
    }

    private static void walk() {
        asking("36 walk");
        HeapAndDeque x = new HeapAndDeque();
        due(7L, x::walk);
        x.addLast(5);
        due(222L, x::walk);
        x.addLast(-6);
        due(6876L, x::walk);
        x.addLast(LEAST_INT);
        due(31 * 6876L - 2147483648L, x::walk);
        dueRow(x, 5, -6, LEAST_INT);

        HeapAndDeque full = withRow(mixed(LIMIT));
        long sum = 7;
        for (int number : mixed(LIMIT)) {
            sum = sum * 31 + number;
        }
        due(sum, full::walk);
        due(LIMIT, full::length);
    }

    private static void walkBack() {
        asking("37 walkBack");
        HeapAndDeque x = new HeapAndDeque();
        due(7L, x::walkBack);
        x.addFirst(5);
        due(222L, x::walkBack);
        x.addFirst(-6);
        due(6876L, x::walkBack);
        x.addFirst(GREATEST_INT);
        due(31 * 6876L + 2147483647L, x::walkBack);
        dueRow(x, GREATEST_INT, -6, 5);

        HeapAndDeque full = withRow(mixed(LIMIT));
        int[] numbers = mixed(LIMIT);
        long sum = 7;
        for (int i = LIMIT - 1; i >= 0; i--) {
            sum = sum * 31 + numbers[i];
        }
        due(sum, full::walkBack);
        due(LIMIT, full::length);
    }

    private static void queue() {
        offer();
        add();
        peek();
        poll();
        remove();
        contains();
        size();
        clear();
        addAll();
        drain();
    }

    private static void queueOfPairs() {
        offerPair();
        peekPair();
        pollPair();
        removePair();
        containsPair();
        sizePairs();
        clearPairs();
        drainPairs();
    }

    private static void row() {
        addFirst();
        addLast();
        getFirst();
        getLast();
        removeFirst();
        removeLast();
        push();
        pop();
        removeFirstOccurrence();
        removeLastOccurrence();
        has();
        length();
        wipe();
        at();
        back();
        dropLike();
        walk();
        walkBack();
    }

    public static void main(String[] args) {
        newObject();
        queue();
        queueOfPairs();
        row();
        end("");
    }
}
