import java.util.NoSuchElementException;

/** A test for each boundary case that a sentence of the promises 1 to 11 names: the queue. */
public final class QueueBoundaryTest extends DueAnswers {
    // Promise 1: a new object.

    /** Promise 1, "Creates both queues and the row, without anything.": the queue is empty. */
    static void aNewQueueIsEmpty() {
        dueQueue(new HeapAndDeque());
    }

    /** Promise 1, "Creates both queues and the row, without anything.": no pairs. */
    static void aNewQueueOfPairsIsEmpty() {
        duePairs(new HeapAndDeque());
    }

    /** Promise 1, "Creates both queues and the row, without anything.": the row is empty. */
    static void aNewRowIsEmpty() {
        dueRow(new HeapAndDeque());
    }

    /**
     * Promise 1, "Creates both queues and the row, without anything.": an object that is made
     * while another one is full holds nothing of it.
     */
    static void aNewObjectBesideAFullOneIsEmpty() {
        HeapAndDeque full = withFullRow();
        full.addAll();
        full.offerPair(1, 1);
        HeapAndDeque x = new HeapAndDeque();
        dueQueue(x);
        duePairs(x);
        dueRow(x);
        due(LIMIT, full::length);
        due(LIMIT, full::size);
    }

    // Promise 2: offer.

    /** Promise 2, "Puts a number into the queue.": into an empty one. */
    static void offerPutsIntoAnEmptyQueue() {
        HeapAndDeque x = new HeapAndDeque();
        x.offer(6);
        due(true, () -> x.contains(6));
    }

    /** Promise 2, "Puts a number into the queue.": into the last room, ahead of all others. */
    static void offerPutsALeastNumberIntoTheLastRoom() {
        HeapAndDeque x = withQueue(mixed(199));
        x.offer(-1);
        due(-1, x::poll);
        dueQueue(x, upTo(199));
    }

    /** Promise 2, "Puts a number into the queue.": into the last room, behind all others. */
    static void offerPutsAGreatestNumberIntoTheLastRoom() {
        HeapAndDeque x = withQueue(mixed(199));
        x.offer(199);
        dueQueue(x, upTo(LIMIT));
    }

    /** Promise 2, "`number`: any number": the least int. */
    static void offerTakesTheLeastInt() {
        HeapAndDeque x = withQueue(0);
        due(2, () -> x.offer(LEAST_INT));
        dueQueue(x, LEAST_INT, 0);
    }

    /** Promise 2, "`number`: any number": the greatest int. */
    static void offerTakesTheGreatestInt() {
        HeapAndDeque x = withQueue(0);
        due(2, () -> x.offer(GREATEST_INT));
        dueQueue(x, 0, GREATEST_INT);
    }

    /** Promise 2, "Returns how many it holds then.": the first one. */
    static void offerAnswers1ForTheFirst() {
        HeapAndDeque x = new HeapAndDeque();
        due(1, () -> x.offer(6));
    }

    /** Promise 2, "Returns how many it holds then.": the last one that it has room for. */
    static void offerAnswers200ForTheLast() {
        HeapAndDeque x = withQueue(mixed(199));
        due(200, () -> x.offer(6));
    }

    /** Promise 2, "Throws `IllegalStateException` if the queue holds 200": it holds 200. */
    static void offerIntoAFullQueueIsRefused() {
        HeapAndDeque x = withFullQueue();
        due(IllegalStateException.class, () -> x.offer(6));
    }

    /** Promise 2, "Throws `IllegalStateException` if the queue holds 200": it holds 199. */
    static void offerIntoTheLastRoomIsNotRefused() {
        HeapAndDeque x = withQueue(mixed(199));
        due(200, () -> x.offer(199));
        due(IllegalStateException.class, () -> x.offer(200));
    }

    /**
     * Promise 2, "Throws `IllegalStateException` if the queue holds 200": no longer when a full
     * one has given one, and again when it is full again.
     */
    static void offerIsRefusedAgainWhenFullAgain() {
        HeapAndDeque x = withFullQueue();
        due(IllegalStateException.class, () -> x.offer(6));
        x.poll();
        due(200, () -> x.offer(6));
        due(IllegalStateException.class, () -> x.offer(6));
    }

    /** Promise 2, "Throws `IllegalStateException` if the queue holds 200": full by addAll. */
    static void offerIsRefusedByAQueueFullByAddAll() {
        HeapAndDeque x = withFullRow();
        x.addAll();
        due(IllegalStateException.class, () -> x.offer(6));
    }

    /** Promise 2, "Throws `IllegalStateException` if the queue holds 200": the row holds 200. */
    static void offerIsNotRefusedForAFullRow() {
        HeapAndDeque x = withFullRow();
        due(1, () -> x.offer(6));
    }

    // Promise 3: add.

    /** Promise 3, "Puts a number into the queue, as offer does.": into an empty one. */
    static void addPutsIntoAnEmptyQueue() {
        HeapAndDeque x = new HeapAndDeque();
        x.add(6);
        due(true, () -> x.contains(6));
    }

    /** Promise 3, "Puts a number into the queue, as offer does.": into the last room, ahead. */
    static void addPutsALeastNumberIntoTheLastRoom() {
        HeapAndDeque x = withQueue(mixed(199));
        x.add(-1);
        due(-1, x::poll);
        dueQueue(x, upTo(199));
    }

    /** Promise 3, "Puts a number into the queue, as offer does.": into the last room, behind. */
    static void addPutsAGreatestNumberIntoTheLastRoom() {
        HeapAndDeque x = withQueue(mixed(199));
        x.add(199);
        dueQueue(x, upTo(LIMIT));
    }

    /** Promise 3, "`number`: any number": the least int. */
    static void addTakesTheLeastInt() {
        HeapAndDeque x = withQueue(0);
        due(2, () -> x.add(LEAST_INT));
        dueQueue(x, LEAST_INT, 0);
    }

    /** Promise 3, "`number`: any number": the greatest int. */
    static void addTakesTheGreatestInt() {
        HeapAndDeque x = withQueue(0);
        due(2, () -> x.add(GREATEST_INT));
        dueQueue(x, 0, GREATEST_INT);
    }

    /** Promise 3, "Returns how many it holds then.": the first one. */
    static void addAnswers1ForTheFirst() {
        HeapAndDeque x = new HeapAndDeque();
        due(1, () -> x.add(6));
    }

    /** Promise 3, "Returns how many it holds then.": the last one that it has room for. */
    static void addAnswers200ForTheLast() {
        HeapAndDeque x = withQueue(mixed(199));
        due(200, () -> x.add(6));
    }

    /** Promise 3, "Throws `IllegalStateException` if the queue holds 200": it holds 200. */
    static void addIntoAFullQueueIsRefused() {
        HeapAndDeque x = withFullQueue();
        due(IllegalStateException.class, () -> x.add(6));
    }

    /** Promise 3, "Throws `IllegalStateException` if the queue holds 200": it holds 199. */
    static void addIntoTheLastRoomIsNotRefused() {
        HeapAndDeque x = withQueue(mixed(199));
        due(200, () -> x.add(199));
        due(IllegalStateException.class, () -> x.add(200));
    }

    /**
     * Promise 3, "Throws `IllegalStateException` if the queue holds 200": no longer when a full
     * one has given one, and again when it is full again.
     */
    static void addIsRefusedAgainWhenFullAgain() {
        HeapAndDeque x = withFullQueue();
        due(IllegalStateException.class, () -> x.add(6));
        x.remove(100);
        due(200, () -> x.add(6));
        due(IllegalStateException.class, () -> x.add(6));
    }

    /** Promise 3, "Throws `IllegalStateException` if the queue holds 200": full by addAll. */
    static void addIsRefusedByAQueueFullByAddAll() {
        HeapAndDeque x = withFullRow();
        x.addAll();
        due(IllegalStateException.class, () -> x.add(6));
    }

    /** Promise 3, "Throws `IllegalStateException` if the queue holds 200": the row holds 200. */
    static void addIsNotRefusedForAFullRow() {
        HeapAndDeque x = withFullRow();
        due(1, () -> x.add(6));
    }

    // Promise 4: peek.

    /** Promise 4, "Returns a least number of the queue, which stays.": of one number. */
    static void peekTellsTheOnlyNumber() {
        HeapAndDeque x = withQueue(6);
        due(6, x::peek);
    }

    /** Promise 4, "Returns a least number of the queue, which stays.": of a full queue. */
    static void peekTellsTheLeastOfAFullQueue() {
        HeapAndDeque x = withFullQueue();
        due(0, x::peek);
    }

    /** Promise 4, "Returns a least number of the queue, which stays.": of several least ones. */
    static void peekTellsOneOfSeveralLeast() {
        HeapAndDeque x = withQueue(3, 8, 3);
        due(3, x::peek);
    }

    /** Promise 4, "Returns a least number of the queue, which stays.": the only one stays. */
    static void peekLeavesTheOnlyNumber() {
        HeapAndDeque x = withQueue(6);
        x.peek();
        dueQueue(x, 6);
    }

    /** Promise 4, "Returns a least number of the queue, which stays.": in a full queue. */
    static void peekLeavesAFullQueue() {
        HeapAndDeque x = withFullQueue();
        x.peek();
        dueQueue(x, upTo(LIMIT));
    }

    /** Promise 4, "Returns the number.": the least int. */
    static void peekTellsTheLeastInt() {
        HeapAndDeque x = withQueue(GREATEST_INT, LEAST_INT, 0);
        due(LEAST_INT, x::peek);
    }

    /** Promise 4, "Returns the number.": the greatest int. */
    static void peekTellsTheGreatestInt() {
        HeapAndDeque x = withQueue(GREATEST_INT, GREATEST_INT);
        due(GREATEST_INT, x::peek);
    }

    /** Promise 4, "Throws `NoSuchElementException` if the queue holds none": a new one. */
    static void peekIsRefusedByANewQueue() {
        HeapAndDeque x = new HeapAndDeque();
        due(NoSuchElementException.class, x::peek);
    }

    /** Promise 4, "Throws `NoSuchElementException` if the queue holds none": the last polled. */
    static void peekIsRefusedWhenTheLastIsPolled() {
        HeapAndDeque x = withQueue(6);
        x.poll();
        due(NoSuchElementException.class, x::peek);
    }

    /** Promise 4, "Throws `NoSuchElementException` if the queue holds none": the last removed. */
    static void peekIsRefusedWhenTheLastIsRemoved() {
        HeapAndDeque x = withQueue(6);
        x.remove(6);
        due(NoSuchElementException.class, x::peek);
    }

    /** Promise 4, "Throws `NoSuchElementException` if the queue holds none": a full one cleared. */
    static void peekIsRefusedWhenAFullQueueIsCleared() {
        HeapAndDeque x = withFullQueue();
        x.clear();
        due(NoSuchElementException.class, x::peek);
    }

    /** Promise 4, "Throws `NoSuchElementException` if the queue holds none": a full one drained. */
    static void peekIsRefusedWhenAFullQueueIsDrained() {
        HeapAndDeque x = withFullQueue();
        x.drain();
        due(NoSuchElementException.class, x::peek);
    }

    /** Promise 4, "Throws `NoSuchElementException` if the queue holds none": the others hold. */
    static void peekIsRefusedWhileOnlyTheOthersHold() {
        HeapAndDeque x = withRow(1);
        x.offerPair(1, 1);
        due(NoSuchElementException.class, x::peek);
    }

    // Promise 5: poll.

    /** Promise 5, "Takes a least number out of the queue.": the only one. */
    static void pollTakesTheOnlyNumber() {
        HeapAndDeque x = withQueue(6);
        due(6, x::poll);
        due(0, x::size);
    }

    /** Promise 5, "Takes a least number out of the queue.": out of a full one, till it is empty. */
    static void pollTakesAFullQueueInOrder() {
        HeapAndDeque x = withFullQueue();
        for (int number = 0; number < LIMIT; number++) {
            due(number, x::poll);
        }
        due(0, x::size);
    }

    /** Promise 5, "Takes a least number out of the queue.": one of several least ones. */
    static void pollTakesOneOfSeveralLeast() {
        HeapAndDeque x = withQueue(3, 8, 3);
        due(3, x::poll);
        dueQueue(x, 3, 8);
    }

    /** Promise 5, "Returns the number.": the least int. */
    static void pollTellsTheLeastInt() {
        HeapAndDeque x = withQueue(GREATEST_INT, LEAST_INT, 0);
        due(LEAST_INT, x::poll);
    }

    /** Promise 5, "Returns the number.": the greatest int. */
    static void pollTellsTheGreatestInt() {
        HeapAndDeque x = withQueue(GREATEST_INT, GREATEST_INT);
        due(GREATEST_INT, x::poll);
    }

    /** Promise 5, "Throws `NoSuchElementException` if the queue holds none": a new one. */
    static void pollIsRefusedByANewQueue() {
        HeapAndDeque x = new HeapAndDeque();
        due(NoSuchElementException.class, x::poll);
    }

    /** Promise 5, "Throws `NoSuchElementException` if the queue holds none": the last polled. */
    static void pollIsRefusedWhenTheLastIsPolled() {
        HeapAndDeque x = withQueue(6);
        x.poll();
        due(NoSuchElementException.class, x::poll);
    }

    /** Promise 5, "Throws `NoSuchElementException` if the queue holds none": the last removed. */
    static void pollIsRefusedWhenTheLastIsRemoved() {
        HeapAndDeque x = withQueue(6);
        x.remove(6);
        due(NoSuchElementException.class, x::poll);
    }

    /** Promise 5, "Throws `NoSuchElementException` if the queue holds none": a full one cleared. */
    static void pollIsRefusedWhenAFullQueueIsCleared() {
        HeapAndDeque x = withFullQueue();
        x.clear();
        due(NoSuchElementException.class, x::poll);
    }

    /** Promise 5, "Throws `NoSuchElementException` if the queue holds none": a full one drained. */
    static void pollIsRefusedWhenAFullQueueIsDrained() {
        HeapAndDeque x = withFullQueue();
        x.drain();
        due(NoSuchElementException.class, x::poll);
    }

    /** Promise 5, "Throws `NoSuchElementException` if the queue holds none": the others hold. */
    static void pollIsRefusedWhileOnlyTheOthersHold() {
        HeapAndDeque x = withRow(1);
        x.offerPair(1, 1);
        due(NoSuchElementException.class, x::poll);
    }

    // Promise 6: remove.

    /**
     * Promise 6, "Takes one of the numbers that are like a number out of the queue.": only one of
     * several.
     */
    static void removeTakesOneOfSeveralLikeOnes() {
        HeapAndDeque x = withQueue(5, 1, 5, 8, 5);
        x.remove(5);
        dueQueue(x, 1, 5, 5, 8);
    }

    /**
     * Promise 6, "Takes one of the numbers that are like a number out of the queue.": the only
     * one that the queue holds.
     */
    static void removeTakesTheOnlyNumber() {
        HeapAndDeque x = withQueue(5);
        x.remove(5);
        dueQueue(x);
    }

    /**
     * Promise 6, "Takes one of the numbers that are like a number out of the queue.": the least
     * of a full queue.
     */
    static void removeTakesTheLeastOfAFullQueue() {
        HeapAndDeque x = withFullQueue();
        x.remove(0);
        due(199, x::size);
        due(1, x::peek);
        due(200, () -> x.offer(0));
    }

    /**
     * Promise 6, "Takes one of the numbers that are like a number out of the queue.": the
     * greatest of a full queue.
     */
    static void removeTakesTheGreatestOfAFullQueue() {
        HeapAndDeque x = withFullQueue();
        x.remove(199);
        dueQueue(x, upTo(199));
    }

    /**
     * Promise 6, "Takes one of the numbers that are like a number out of the queue.": none is
     * like it, and a full queue stays.
     */
    static void removeTakesNothingThatIsNotLike() {
        HeapAndDeque x = withFullQueue();
        x.remove(200);
        dueQueue(x, upTo(LIMIT));
    }

    /** Promise 6, "`number`: any number": the least int. */
    static void removeTakesTheLeastInt() {
        HeapAndDeque x = withQueue(GREATEST_INT, LEAST_INT, 0);
        due(true, () -> x.remove(LEAST_INT));
        dueQueue(x, 0, GREATEST_INT);
    }

    /** Promise 6, "`number`: any number": the greatest int. */
    static void removeTakesTheGreatestInt() {
        HeapAndDeque x = withQueue(GREATEST_INT, LEAST_INT, 0);
        due(true, () -> x.remove(GREATEST_INT));
        dueQueue(x, LEAST_INT, 0);
    }

    /** Promise 6, "Returns whether there was one.": the queue is empty. */
    static void removeOutOfAnEmptyQueueTellsNone() {
        HeapAndDeque x = new HeapAndDeque();
        due(false, () -> x.remove(0));
    }

    /** Promise 6, "Returns whether there was one.": the queue is full, and has none such. */
    static void removeOutOfAFullQueueTellsNone() {
        HeapAndDeque x = withFullQueue();
        due(false, () -> x.remove(200));
        due(false, () -> x.remove(-1));
    }

    /** Promise 6, "Returns whether there was one.": the queue is full, and has one such. */
    static void removeOutOfAFullQueueTellsOne() {
        HeapAndDeque x = withFullQueue();
        due(true, () -> x.remove(0));
        due(true, () -> x.remove(199));
    }

    /** Promise 6, "Returns whether there was one.": there was one, but it is taken. */
    static void removeTellsNoneWhenTheLastLikeOneIsTaken() {
        HeapAndDeque x = withQueue(5, 5);
        due(true, () -> x.remove(5));
        due(true, () -> x.remove(5));
        due(false, () -> x.remove(5));
    }

    /** Promise 6, "Returns whether there was one.": only the row holds one. */
    static void removeTellsNoneThatOnlyTheRowHolds() {
        HeapAndDeque x = withRow(5);
        due(false, () -> x.remove(5));
        dueRow(x, 5);
    }

    // Promise 7: contains.

    /** Promise 7, "Tells whether the queue holds a number.": an empty one. */
    static void anEmptyQueueContainsNone() {
        HeapAndDeque x = new HeapAndDeque();
        due(false, () -> x.contains(0));
    }

    /** Promise 7, "Tells whether the queue holds a number.": the only one. */
    static void containsTellsTheOnlyNumber() {
        HeapAndDeque x = withQueue(6);
        due(true, () -> x.contains(6));
        due(false, () -> x.contains(5));
        due(false, () -> x.contains(7));
    }

    /** Promise 7, "Tells whether the queue holds a number.": each of a full one. */
    static void containsTellsEachOfAFullQueue() {
        HeapAndDeque x = withFullQueue();
        for (int i = 0; i < LIMIT; i++) {
            int number = i;
            due(true, () -> x.contains(number));
        }
    }

    /** Promise 7, "Tells whether the queue holds a number.": none besides those of a full one. */
    static void aFullQueueContainsNoOther() {
        HeapAndDeque x = withFullQueue();
        due(false, () -> x.contains(-1));
        due(false, () -> x.contains(200));
    }

    /** Promise 7, "`number`: any number": the least int, which only one of two queues holds. */
    static void containsTellsTheLeastInt() {
        HeapAndDeque x = withQueue(1, LEAST_INT);
        due(true, () -> x.contains(LEAST_INT));
        HeapAndDeque without = withQueue(1, GREATEST_INT);
        due(false, () -> without.contains(LEAST_INT));
    }

    /** Promise 7, "`number`: any number": the greatest int, which only one of two queues holds. */
    static void containsTellsTheGreatestInt() {
        HeapAndDeque x = withQueue(1, GREATEST_INT);
        due(true, () -> x.contains(GREATEST_INT));
        HeapAndDeque without = withQueue(1, LEAST_INT);
        due(false, () -> without.contains(GREATEST_INT));
    }

    /** Promise 7, "Returns whether it does.": no longer when its only one is polled. */
    static void containsTellsNoneThatIsPolled() {
        HeapAndDeque x = withQueue(6);
        x.poll();
        due(false, () -> x.contains(6));
    }

    /** Promise 7, "Returns whether it does.": no longer when one of a full queue is removed. */
    static void containsTellsNoneThatIsRemoved() {
        HeapAndDeque x = withFullQueue();
        x.remove(199);
        due(false, () -> x.contains(199));
    }

    /** Promise 7, "Returns whether it does.": no longer when a full queue is cleared. */
    static void containsTellsNoneOfAClearedQueue() {
        HeapAndDeque x = withFullQueue();
        x.clear();
        due(false, () -> x.contains(0));
        due(false, () -> x.contains(199));
    }

    /** Promise 7, "Returns whether it does.": one of two like ones is polled. */
    static void containsTellsTheOtherOfTwoLikeOnes() {
        HeapAndDeque x = withQueue(6, 6);
        x.poll();
        due(true, () -> x.contains(6));
    }

    /** Promise 7, "Returns whether it does.": only the row and a pair have such a number. */
    static void containsTellsNoneOfTheOthers() {
        HeapAndDeque x = withRow(6);
        x.offerPair(6, 6);
        due(false, () -> x.contains(6));
    }

    // Promise 8: size.

    /** Promise 8, "Returns how many the queue holds.": a new one. */
    static void theSizeOfANewQueueIs0() {
        HeapAndDeque x = new HeapAndDeque();
        due(0, x::size);
    }

    /** Promise 8, "Returns how many the queue holds.": a full one. */
    static void theSizeOfAFullQueueIs200() {
        HeapAndDeque x = withFullQueue();
        due(200, x::size);
    }

    /** Promise 8, "Returns how many the queue holds.": a full one, after a refused call. */
    static void theSizeStays200AfterARefusal() {
        HeapAndDeque x = withFullQueue();
        due(IllegalStateException.class, () -> x.offer(6));
        due(200, x::size);
    }

    /** Promise 8, "Returns how many the queue holds.": an empty one, after a refused call. */
    static void theSizeStays0AfterARefusal() {
        HeapAndDeque x = new HeapAndDeque();
        due(NoSuchElementException.class, x::poll);
        due(0, x::size);
    }

    /** Promise 8, "Returns how many the queue holds.": one that was full, and is empty. */
    static void theSizeOfAnEmptiedQueueIs0() {
        HeapAndDeque x = withFullQueue();
        x.drain();
        due(0, x::size);
    }

    /** Promise 8, "Returns how many the queue holds.": an empty one while the row is full. */
    static void theSizeOfAnEmptyQueueBesideAFullRowIs0() {
        HeapAndDeque x = withFullRow();
        x.offerPair(1, 1);
        due(0, x::size);
    }

    // Promise 9: clear.

    /** Promise 9, "Empties the queue.": a full one, which has room for 200 then. */
    static void clearEmptiesAFullQueue() {
        HeapAndDeque x = withFullQueue();
        x.clear();
        due(0, x::size);
        for (int i = 1; i <= LIMIT; i++) {
            int held = i;
            due(held, () -> x.offer(-held));
        }
        due(IllegalStateException.class, () -> x.offer(0));
        due(-200, x::peek);
    }

    /** Promise 9, "Empties the queue.": one with a single number. */
    static void clearEmptiesAQueueOfOne() {
        HeapAndDeque x = withQueue(6);
        x.clear();
        dueQueue(x);
    }

    /** Promise 9, "Empties the queue.": an empty one stays empty. */
    static void clearLeavesAnEmptyQueueEmpty() {
        HeapAndDeque x = new HeapAndDeque();
        x.clear();
        dueQueue(x);
    }

    /** Promise 9, "Empties the queue.": the queue alone, not the pairs and not the row. */
    static void clearEmptiesNothingElse() {
        HeapAndDeque x = withFullRow();
        x.offerPair(1, 1);
        x.clear();
        due(LIMIT, x::length);
        duePairs(x, 1001L);
    }

    /** Promise 9, "Returns how many it held.": an empty one. */
    static void clearAnswers0OfAnEmptyQueue() {
        HeapAndDeque x = new HeapAndDeque();
        due(0, x::clear);
    }

    /** Promise 9, "Returns how many it held.": one with a single number. */
    static void clearAnswers1OfAQueueOfOne() {
        HeapAndDeque x = withQueue(6);
        due(1, x::clear);
    }

    /** Promise 9, "Returns how many it held.": a full one, and the same one once more. */
    static void clearAnswers200OfAFullQueue() {
        HeapAndDeque x = withFullQueue();
        due(200, x::clear);
        due(0, x::clear);
    }

    // Promise 10: addAll.

    /** 101 in the queue and the row's first numbers as asked: 99 are just not too many. */
    private static HeapAndDeque with101InTheQueueAndInTheRow(int count) {
        HeapAndDeque x = withRow(upTo(count));
        for (int number : mixed(101)) {
            x.offer(number);
        }
        return x;
    }

    /**
     * Promise 10, "Puts all numbers of the row into the queue; they stay in the row, too.": none,
     * of an empty row.
     */
    static void addAllOfAnEmptyRowPutsNone() {
        HeapAndDeque x = withQueue(4);
        x.addAll();
        dueQueue(x, 4);
    }

    /**
     * Promise 10, "Puts all numbers of the row into the queue; they stay in the row, too.": the
     * 200 of a full row, into an empty queue.
     */
    static void addAllPutsAFullRowIntoAnEmptyQueue() {
        HeapAndDeque x = withRow(mixed(LIMIT));
        x.addAll();
        dueQueue(x, upTo(LIMIT));
    }

    /**
     * Promise 10, "Puts all numbers of the row into the queue; they stay in the row, too.": the
     * 200 of a full row stay.
     */
    static void addAllLeavesAFullRow() {
        HeapAndDeque x = withFullRow();
        x.addAll();
        dueRow(x, upTo(LIMIT));
    }

    /**
     * Promise 10, "Puts all numbers of the row into the queue; they stay in the row, too.": like
     * ones each, those that the queue holds already among them.
     */
    static void addAllPutsLikeOnesEach() {
        HeapAndDeque x = withRow(5, 5, LEAST_INT, GREATEST_INT);
        x.offer(5);
        x.addAll();
        dueQueue(x, LEAST_INT, 5, 5, 5, GREATEST_INT);
    }

    /** Promise 10, "Returns how many the queue holds then.": both are empty. */
    static void addAllAnswers0OfAnEmptyRowAndQueue() {
        HeapAndDeque x = new HeapAndDeque();
        due(0, x::addAll);
    }

    /** Promise 10, "Returns how many the queue holds then.": a row of one, an empty queue. */
    static void addAllAnswers1OfARowOfOneAndAnEmptyQueue() {
        HeapAndDeque x = withRow(6);
        due(1, x::addAll);
    }

    /** Promise 10, "Returns how many the queue holds then.": an empty row, a queue of one. */
    static void addAllAnswers1OfAnEmptyRowAndAQueueOfOne() {
        HeapAndDeque x = withQueue(6);
        due(1, x::addAll);
    }

    /** Promise 10, "Returns how many the queue holds then.": an empty row, a full queue. */
    static void addAllAnswers200OfAnEmptyRowAndAFullQueue() {
        HeapAndDeque x = withFullQueue();
        due(200, x::addAll);
    }

    /** Promise 10, "Returns how many the queue holds then.": a full row, an empty queue. */
    static void addAllAnswers200OfAFullRowAndAnEmptyQueue() {
        HeapAndDeque x = withFullRow();
        due(200, x::addAll);
    }

    /** Promise 10, "Throws `IllegalStateException` if it would hold more than 200": 200. */
    static void addAllUpTo200IsNotRefused() {
        HeapAndDeque x = with101InTheQueueAndInTheRow(99);
        due(200, x::addAll);
    }

    /** Promise 10, "Throws `IllegalStateException` if it would hold more than 200": 201. */
    static void addAllUpTo201IsRefused() {
        HeapAndDeque x = with101InTheQueueAndInTheRow(100);
        due(IllegalStateException.class, x::addAll);
    }

    /**
     * Promise 10, "Throws `IllegalStateException` if it would hold more than 200": 201, by one
     * number more for a full queue.
     */
    static void addAllOfOneNumberIntoAFullQueueIsRefused() {
        HeapAndDeque x = withFullQueue();
        x.addLast(7);
        due(IllegalStateException.class, x::addAll);
    }

    /**
     * Promise 10, "Throws `IllegalStateException` if it would hold more than 200": 201, by a full
     * row for a queue of one.
     */
    static void addAllOfAFullRowIntoAQueueOfOneIsRefused() {
        HeapAndDeque x = withFullRow();
        x.offer(7);
        due(IllegalStateException.class, x::addAll);
    }

    /** Promise 10, "Throws `IllegalStateException` if it would hold more than 200": 400. */
    static void addAllOfAFullRowIntoAFullQueueIsRefused() {
        HeapAndDeque x = withFullRow();
        due(200, x::addAll);
        due(IllegalStateException.class, x::addAll);
    }

    /**
     * Promise 10, "Throws `IllegalStateException` if it would hold more than 200": no longer when
     * one is taken of 201.
     */
    static void addAllIsNotRefusedWhenOneIsTakenOf201() {
        HeapAndDeque x = with101InTheQueueAndInTheRow(100);
        due(IllegalStateException.class, x::addAll);
        x.poll();
        due(200, x::addAll);
    }

    // Promise 11: drain.

    /** 101 in the row and the queue's first numbers as asked: 99 are just not too many. */
    private static HeapAndDeque with101InTheRowAndInTheQueue(int count) {
        HeapAndDeque x = withQueue(upTo(count));
        for (int number : mixed(101)) {
            x.addLast(number);
        }
        return x;
    }

    /**
     * Promise 11, "Takes all numbers out of the queue, a least one each time, and puts each at the
     * last end of the row.": none, of an empty queue.
     */
    static void drainOfAnEmptyQueuePutsNone() {
        HeapAndDeque x = withRow(8, 2);
        x.drain();
        dueRow(x, 8, 2);
    }

    /**
     * Promise 11, "Takes all numbers out of the queue, a least one each time, and puts each at the
     * last end of the row.": out of a full queue, which is empty then.
     */
    static void drainEmptiesAFullQueue() {
        HeapAndDeque x = withFullQueue();
        x.drain();
        dueQueue(x);
    }

    /**
     * Promise 11, "Takes all numbers out of the queue, a least one each time, and puts each at the
     * last end of the row.": a full queue, into an empty row.
     */
    static void drainPutsAFullQueueInOrder() {
        HeapAndDeque x = withFullQueue();
        x.drain();
        dueRow(x, upTo(LIMIT));
    }

    /**
     * Promise 11, "Takes all numbers out of the queue, a least one each time, and puts each at the
     * last end of the row.": behind the only one of the row, the ends of the ints among them.
     */
    static void drainPutsBehindTheRowsOnlyNumber() {
        HeapAndDeque x = withRow(8);
        x.offer(GREATEST_INT);
        x.offer(LEAST_INT);
        x.drain();
        dueRow(x, 8, LEAST_INT, GREATEST_INT);
    }

    /**
     * Promise 11, "Takes all numbers out of the queue, a least one each time, and puts each at the
     * last end of the row.": like ones each.
     */
    static void drainPutsLikeOnesEach() {
        HeapAndDeque x = withQueue(3, 3, 1, 3);
        x.drain();
        dueRow(x, 1, 3, 3, 3);
    }

    /** Promise 11, "Returns how many they were.": the queue is empty. */
    static void drainAnswers0OfAnEmptyQueue() {
        HeapAndDeque x = withRow(8, 2);
        due(0, x::drain);
    }

    /** Promise 11, "Returns how many they were.": the queue holds a single number. */
    static void drainAnswers1OfAQueueOfOne() {
        HeapAndDeque x = withQueue(6);
        due(1, x::drain);
    }

    /** Promise 11, "Returns how many they were.": the queue is full. */
    static void drainAnswers200OfAFullQueue() {
        HeapAndDeque x = withFullQueue();
        due(200, x::drain);
    }

    /** Promise 11, "Returns how many they were.": not how many the row holds then, up to 200. */
    static void drainAnswersWhatTheQueueHeld() {
        HeapAndDeque x = with101InTheRowAndInTheQueue(99);
        due(99, x::drain);
    }

    /** Promise 11, "Throws `IllegalStateException` if the row would hold more than 200": 200. */
    static void drainUpTo200IsNotRefused() {
        HeapAndDeque x = with101InTheRowAndInTheQueue(99);
        due(99, x::drain);
        due(200, x::length);
    }

    /** Promise 11, "Throws `IllegalStateException` if the row would hold more than 200": 201. */
    static void drainUpTo201IsRefused() {
        HeapAndDeque x = with101InTheRowAndInTheQueue(100);
        due(IllegalStateException.class, x::drain);
    }

    /**
     * Promise 11, "Throws `IllegalStateException` if the row would hold more than 200": 201, by
     * one number more for a full row.
     */
    static void drainOfOneNumberOntoAFullRowIsRefused() {
        HeapAndDeque x = withFullRow();
        x.offer(7);
        due(IllegalStateException.class, x::drain);
    }

    /**
     * Promise 11, "Throws `IllegalStateException` if the row would hold more than 200": 201, by a
     * full queue for a row of one.
     */
    static void drainOfAFullQueueOntoARowOfOneIsRefused() {
        HeapAndDeque x = withFullQueue();
        x.addLast(7);
        due(IllegalStateException.class, x::drain);
    }

    /** Promise 11, "Throws `IllegalStateException` if the row would hold more than 200": 400. */
    static void drainOfAFullQueueOntoAFullRowIsRefused() {
        HeapAndDeque x = withFullRow();
        x.addAll();
        due(IllegalStateException.class, x::drain);
    }

    /**
     * Promise 11, "Throws `IllegalStateException` if the row would hold more than 200": 200 as
     * before, of an empty queue and a full row.
     */
    static void drainOfAnEmptyQueueOntoAFullRowIsNotRefused() {
        HeapAndDeque x = withFullRow();
        due(0, x::drain);
    }

    /**
     * Promise 11, "Throws `IllegalStateException` if the row would hold more than 200": no longer
     * when one is taken of 201.
     */
    static void drainIsNotRefusedWhenOneIsTakenOf201() {
        HeapAndDeque x = with101InTheRowAndInTheQueue(100);
        due(IllegalStateException.class, x::drain);
        x.removeFirst();
        due(100, x::drain);
    }

    public static void main(String[] args) {
        runTestsOf(QueueBoundaryTest.class);
    }
}
