import java.util.NoSuchElementException;

/**
 * A queue that gives the least first, a queue of pairs likewise, and a row with two ends.
 * Each holds at most 200; a call that throws changes nothing.
 */
public final class HeapAndDeque {
    private static final int LIMIT = 200;
    private static final int GREATEST_TAG = 999;
    private static final long TAGS = 1000L;

    private final LeastFirst numbers;
    private final LeastFirst pairs;
    private final Row row;

    public HeapAndDeque() {
        numbers = new LeastFirst();
        pairs = new LeastFirst();
        row = new Row();
    }

    // The queue.

    public int offer(int number) throws IllegalStateException {
        return numbers.put(number);
    }

    public int add(int number) throws IllegalStateException {
        return numbers.put(number);
    }

    public int peek() throws NoSuchElementException {
        return (int) numbers.least();
    }

    public int poll() throws NoSuchElementException {
        return (int) numbers.takeLeast();
    }

    public boolean remove(int number) {
        return numbers.takeLike(number);
    }

    public boolean contains(int number) {
        return numbers.placeOf(number) >= 0;
    }

    public int size() {
        return numbers.count;
    }

    public int clear() {
        return numbers.empty();
    }

    public int addAll() throws IllegalStateException {
        // Looked at ahead of the first number, so that a refusal leaves none of them behind.
        if (numbers.count + row.count > LIMIT) {
            throw new IllegalStateException("the queue would hold more than 200");
        }
        for (int place = 0; place < row.count; place++) {
            numbers.put(row.numberAt(place));
        }
        return numbers.count;
    }

    public int drain() throws IllegalStateException {
        refuseAtRow(numbers.count);
        int moved = numbers.count;
        for (int i = 0; i < moved; i++) {
            row.putLast((int) numbers.takeLeast());
        }
        return moved;
    }

    // The queue of pairs.

    public int offerPair(int key, int tag) throws IllegalArgumentException, IllegalStateException {
        return pairs.put(rankOf(key, tag));
    }

    public long peekPair() throws NoSuchElementException {
        return toldOf(pairs.least());
    }

    public long pollPair() throws NoSuchElementException {
        return toldOf(pairs.takeLeast());
    }

    public boolean removePair(int key, int tag) throws IllegalArgumentException {
        return pairs.takeLike(rankOf(key, tag));
    }

    public boolean containsPair(int key, int tag) throws IllegalArgumentException {
        return pairs.placeOf(rankOf(key, tag)) >= 0;
    }

    public int sizePairs() {
        return pairs.count;
    }

    public int clearPairs() {
        return pairs.empty();
    }

    public int drainPairs() throws IllegalStateException {
        refuseAtRow(pairs.count);
        int moved = pairs.count;
        for (int i = 0; i < moved; i++) {
            row.putLast(keyOf(pairs.takeLeast()));
        }
        return moved;
    }

    // The row.

    public int addFirst(int number) throws IllegalStateException {
        return row.putFirst(number);
    }

    public int addLast(int number) throws IllegalStateException {
        return row.putLast(number);
    }

    public int getFirst() throws NoSuchElementException {
        return row.first();
    }

    public int getLast() throws NoSuchElementException {
        return row.last();
    }

    public int removeFirst() throws NoSuchElementException {
        return row.takeFirst();
    }

    public int removeLast() throws NoSuchElementException {
        return row.takeLast();
    }

    public int push(int number) throws IllegalStateException {
        return row.putFirst(number);
    }

    public int pop() throws NoSuchElementException {
        return row.takeFirst();
    }

    public boolean removeFirstOccurrence(int number) {
        return row.takeFound(row.firstPlaceOf(number));
    }

    public boolean removeLastOccurrence(int number) {
        return row.takeFound(row.lastPlaceOf(number));
    }

    public boolean has(int number) {
        return row.firstPlaceOf(number) >= 0;
    }

    public int length() {
        return row.count;
    }

    public int wipe() {
        return row.empty();
    }

    public int at(int place) throws IndexOutOfBoundsException {
        return row.numberAt(place);
    }

    public int back(int place) throws IndexOutOfBoundsException {
        return row.numberFromLast(place);
    }

    public int dropLike(int number) {
        return row.takeAllLike(number);
    }

    public long walk() {
        return row.sumFromFirst();
    }

    public long walkBack() {
        return row.sumFromLast();
    }

    /** A drain calls this ahead of its first move, so that a refusal leaves all where it was. */
    private void refuseAtRow(int more) throws IllegalStateException {
        if (row.count + more > LIMIT) {
            throw new IllegalStateException("the row would hold more than 200");
        }
    }

    /**
     * A pair as one long whose order is the order of the pairs: the tag is turned round, because
     * of like keys the pair with the greater tag is less.
     */
    private static long rankOf(int key, int tag) throws IllegalArgumentException {
        if (tag < 0 || tag > GREATEST_TAG) {
            throw new IllegalArgumentException("the tag is out of range");
        }
        return key * TAGS + (GREATEST_TAG - tag);
    }

    private static int keyOf(long rank) {
        return (int) Math.floorDiv(rank, TAGS);
    }

    private static long toldOf(long rank) {
        long tag = GREATEST_TAG - Math.floorMod(rank, TAGS);
        return keyOf(rank) * TAGS + tag;
    }

    /** Up to 200 longs that are taken out by their order. */
    private static final class LeastFirst {
        // From the greatest to the least, so that the least is taken off without moving another.
        private final long[] values = new long[LIMIT];
        private int count = 0;

        int put(long value) throws IllegalStateException {
            if (count >= values.length) {
                throw new IllegalStateException("the queue holds 200");
            }
            int place = count;
            while (place > 0 && values[place - 1] < value) {
                values[place] = values[place - 1];
                place--;
            }
            values[place] = value;
            count++;
            return count;
        }

        long least() throws NoSuchElementException {
            if (count <= 0) {
                throw new NoSuchElementException("the queue holds none");
            }
            return values[count - 1];
        }

        long takeLeast() throws NoSuchElementException {
            long value = least();
            count--;
            return value;
        }

        boolean takeLike(long value) {
            int place = placeOf(value);
            if (place < 0) {
                return false;
            }
            for (int i = place + 1; i < count; i++) {
                values[i - 1] = values[i];
            }
            count--;
            return true;
        }

        /** A place of the value, or -1 if there is none. */
        int placeOf(long value) {
            for (int i = 0; i < count; i++) {
                if (values[i] == value) {
                    return i;
                }
            }
            return -1;
        }

        int empty() {
            int held = count;
            count = 0;
            return held;
        }
    }

    /** Up to 200 ints between a first and a last end. */
    private static final class Row {
        // A number's place is its index. A ring would spare the moves at the first end, but of
        // 200 numbers they cost too little to make every index turn round.
        private final int[] values = new int[LIMIT];
        private int count = 0;

        int putFirst(int number) throws IllegalStateException {
            if (count >= values.length) {
                throw new IllegalStateException("the row holds 200");
            }
            for (int i = count; i > 0; i--) {
                values[i] = values[i - 1];
            }
            values[0] = number;
            count++;
            return count;
        }

        int putLast(int number) throws IllegalStateException {
            if (count >= values.length) {
                throw new IllegalStateException("the row holds 200");
            }
            values[count] = number;
            count++;
            return count;
        }

        int first() throws NoSuchElementException {
            if (count <= 0) {
                throw new NoSuchElementException("the row holds none");
            }
            return values[0];
        }

        int last() throws NoSuchElementException {
            if (count <= 0) {
                throw new NoSuchElementException("the row holds none");
            }
            return values[count - 1];
        }

        int takeFirst() throws NoSuchElementException {
            int number = first();
            takeFound(0);
            return number;
        }

        int takeLast() throws NoSuchElementException {
            int number = last();
            count--;
            return number;
        }

        /** Takes out what stands at a place that a search has found; -1 is that of none. */
        boolean takeFound(int place) {
            if (place < 0 || place >= count) {
                return false;
            }
            for (int i = place + 1; i < count; i++) {
                values[i - 1] = values[i];
            }
            count--;
            return true;
        }

        /** The first place of the number, or -1 if there is none. */
        int firstPlaceOf(int number) {
            for (int i = 0; i < count; i++) {
                if (values[i] == number) {
                    return i;
                }
            }
            return -1;
        }

        /** The last place of the number, or -1 if there is none. */
        int lastPlaceOf(int number) {
            for (int i = count - 1; i >= 0; i--) {
                if (values[i] == number) {
                    return i;
                }
            }
            return -1;
        }

        int numberAt(int place) throws IndexOutOfBoundsException {
            if (place < 0 || place >= count) {
                throw new IndexOutOfBoundsException("the row has no such place");
            }
            return values[place];
        }

        int numberFromLast(int place) throws IndexOutOfBoundsException {
            if (place < 0 || place >= count) {
                throw new IndexOutOfBoundsException("the row has no such place");
            }
            return values[count - 1 - place];
        }

        int takeAllLike(int number) {
            int kept = 0;
            for (int i = 0; i < count; i++) {
                if (values[i] != number) {
                    values[kept] = values[i];
                    kept++;
                }
            }
            int taken = count - kept;
            count = kept;
            return taken;
        }

        long sumFromFirst() {
            long sum = 7;
            for (int i = 0; i < count; i++) {
                sum = 31 * sum + values[i];
            }
            return sum;
        }

        long sumFromLast() {
            long sum = 7;
            for (int i = count - 1; i >= 0; i--) {
                sum = 31 * sum + values[i];
            }
            return sum;
        }

        int empty() {
            int held = count;
            count = 0;
            return held;
        }
    }
}
