import java.math.BigInteger;
import java.util.NoSuchElementException;

/** A test for each boundary case that a sentence of the promises 20 to 37 names: the row. */
public final class RowBoundaryTest extends DueAnswers {
    /** 1, 2, 3, 2, 1, put at both ends in turn, so that the row has gone over its beginning. */
    private static HeapAndDeque withRowFromBothEnds() {
        HeapAndDeque x = new HeapAndDeque();
        x.addFirst(3);
        x.addLast(2);
        x.addFirst(2);
        x.addLast(1);
        x.addFirst(1);
        return x;
    }

    /** Room for one more: 0, 1 .. 198. */
    private static HeapAndDeque withRowOf199() {
        return withRow(upTo(199));
    }

    /** The queue and the pairs hold one each, the row none. */
    private static HeapAndDeque withAllButTheRow() {
        HeapAndDeque x = withQueue(1);
        x.offerPair(1, 1);
        return x;
    }

    /** The row stood as 0, 1 .. 199, and is wiped. */
    private static HeapAndDeque withWipedRow() {
        HeapAndDeque x = withFullRow();
        x.wipe();
        return x;
    }

    // Promise 20: addFirst.

    /** Promise 20, "Puts a number at the first end.": of an empty row, where both ends are. */
    static void addFirstPutsIntoAnEmptyRow() {
        HeapAndDeque x = new HeapAndDeque();
        x.addFirst(6);
        dueRow(x, 6);
    }

    /** Promise 20, "Puts a number at the first end.": into the last room, ahead of all. */
    static void addFirstPutsIntoTheLastRoom() {
        HeapAndDeque x = withRowOf199();
        x.addFirst(-1);
        due(-1, x::removeFirst);
        dueRow(x, upTo(199));
    }

    /** Promise 20, "Puts a number at the first end.": 200 times, from empty to full. */
    static void addFirstFillsTheRow() {
        HeapAndDeque x = new HeapAndDeque();
        for (int number = LIMIT - 1; number >= 0; number--) {
            x.addFirst(number);
        }
        dueRow(x, upTo(LIMIT));
    }

    /** Promise 20, "`number`: any number": the least int. */
    static void addFirstTakesTheLeastInt() {
        HeapAndDeque x = withRow(0);
        due(2, () -> x.addFirst(LEAST_INT));
        dueRow(x, LEAST_INT, 0);
    }

    /** Promise 20, "`number`: any number": the greatest int. */
    static void addFirstTakesTheGreatestInt() {
        HeapAndDeque x = withRow(0);
        due(2, () -> x.addFirst(GREATEST_INT));
        dueRow(x, GREATEST_INT, 0);
    }

    /** Promise 20, "Returns how many the row holds then.": the first one. */
    static void addFirstAnswers1ForTheFirst() {
        HeapAndDeque x = new HeapAndDeque();
        due(1, () -> x.addFirst(6));
    }

    /** Promise 20, "Returns how many the row holds then.": the last one that it has room for. */
    static void addFirstAnswers200ForTheLast() {
        HeapAndDeque x = withRowOf199();
        due(200, () -> x.addFirst(6));
    }

    /** Promise 20, "Throws `IllegalStateException` if the row holds 200": it holds 200. */
    static void addFirstToAFullRowIsRefused() {
        HeapAndDeque x = withFullRow();
        due(IllegalStateException.class, () -> x.addFirst(6));
    }

    /** Promise 20, "Throws `IllegalStateException` if the row holds 200": it holds 199. */
    static void addFirstIntoTheLastRoomIsNotRefused() {
        HeapAndDeque x = withRowOf199();
        due(200, () -> x.addFirst(199));
        due(IllegalStateException.class, () -> x.addFirst(200));
    }

    /**
     * Promise 20, "Throws `IllegalStateException` if the row holds 200": no longer when a full
     * one has given one at its last end, and again when it is full again.
     */
    static void addFirstIsRefusedAgainWhenFullAgain() {
        HeapAndDeque x = withFullRow();
        due(IllegalStateException.class, () -> x.addFirst(6));
        x.removeLast();
        due(200, () -> x.addFirst(6));
        due(IllegalStateException.class, () -> x.addFirst(6));
    }

    /** Promise 20, "Throws `IllegalStateException` if the row holds 200": full by drain. */
    static void addFirstIsRefusedByARowFullByDrain() {
        HeapAndDeque x = withFullQueue();
        x.drain();
        due(IllegalStateException.class, () -> x.addFirst(6));
    }

    /** Promise 20, "Throws `IllegalStateException` if the row holds 200": the queue holds 200. */
    static void addFirstIsNotRefusedForAFullQueue() {
        HeapAndDeque x = withFullQueue();
        due(1, () -> x.addFirst(6));
    }

    // Promise 21: addLast.

    /** Promise 21, "Puts a number at the last end.": of an empty row, where both ends are. */
    static void addLastPutsIntoAnEmptyRow() {
        HeapAndDeque x = new HeapAndDeque();
        x.addLast(6);
        dueRow(x, 6);
    }

    /** Promise 21, "Puts a number at the last end.": into the last room, behind all. */
    static void addLastPutsIntoTheLastRoom() {
        HeapAndDeque x = withRowOf199();
        x.addLast(199);
        dueRow(x, upTo(LIMIT));
    }

    /** Promise 21, "`number`: any number": the least int. */
    static void addLastTakesTheLeastInt() {
        HeapAndDeque x = withRow(0);
        due(2, () -> x.addLast(LEAST_INT));
        dueRow(x, 0, LEAST_INT);
    }

    /** Promise 21, "`number`: any number": the greatest int. */
    static void addLastTakesTheGreatestInt() {
        HeapAndDeque x = withRow(0);
        due(2, () -> x.addLast(GREATEST_INT));
        dueRow(x, 0, GREATEST_INT);
    }

    /** Promise 21, "Returns how many the row holds then.": the first one. */
    static void addLastAnswers1ForTheFirst() {
        HeapAndDeque x = new HeapAndDeque();
        due(1, () -> x.addLast(6));
    }

    /** Promise 21, "Returns how many the row holds then.": the last one that it has room for. */
    static void addLastAnswers200ForTheLast() {
        HeapAndDeque x = withRowOf199();
        due(200, () -> x.addLast(6));
    }

    /** Promise 21, "Throws `IllegalStateException` if the row holds 200": it holds 200. */
    static void addLastToAFullRowIsRefused() {
        HeapAndDeque x = withFullRow();
        due(IllegalStateException.class, () -> x.addLast(6));
    }

    /** Promise 21, "Throws `IllegalStateException` if the row holds 200": it holds 199. */
    static void addLastIntoTheLastRoomIsNotRefused() {
        HeapAndDeque x = withRowOf199();
        due(200, () -> x.addLast(199));
        due(IllegalStateException.class, () -> x.addLast(200));
    }

    /**
     * Promise 21, "Throws `IllegalStateException` if the row holds 200": no longer when a full
     * one has given one at its first end, and again when it is full again.
     */
    static void addLastIsRefusedAgainWhenFullAgain() {
        HeapAndDeque x = withFullRow();
        due(IllegalStateException.class, () -> x.addLast(6));
        x.removeFirst();
        due(200, () -> x.addLast(6));
        due(IllegalStateException.class, () -> x.addLast(6));
    }

    /** Promise 21, "Throws `IllegalStateException` if the row holds 200": full by drainPairs. */
    static void addLastIsRefusedByARowFullByDrainPairs() {
        HeapAndDeque x = withFullPairs();
        x.drainPairs();
        due(IllegalStateException.class, () -> x.addLast(6));
    }

    /** Promise 21, "Throws `IllegalStateException` if the row holds 200": the queue holds 200. */
    static void addLastIsNotRefusedForAFullQueue() {
        HeapAndDeque x = withFullQueue();
        due(1, () -> x.addLast(6));
    }

    // Promise 22: getFirst.

    /** Promise 22, "Returns the number at the first end, which stays.": of a row of one. */
    static void getFirstTellsTheOnlyNumber() {
        HeapAndDeque x = withRow(6);
        due(6, x::getFirst);
    }

    /** Promise 22, "Returns the number at the first end, which stays.": of a full row. */
    static void getFirstTellsTheFirstOfAFullRow() {
        HeapAndDeque x = withFullRow();
        due(0, x::getFirst);
    }

    /** Promise 22, "Returns the number at the first end, which stays.": the only one stays. */
    static void getFirstLeavesTheOnlyNumber() {
        HeapAndDeque x = withRow(6);
        x.getFirst();
        dueRow(x, 6);
    }

    /** Promise 22, "Returns the number at the first end, which stays.": a full row stays. */
    static void getFirstLeavesAFullRow() {
        HeapAndDeque x = withFullRow();
        x.getFirst();
        dueRow(x, upTo(LIMIT));
    }

    /** Promise 22, "Returns the number.": the least int. */
    static void getFirstTellsTheLeastInt() {
        HeapAndDeque x = withRow(LEAST_INT, 0);
        due(LEAST_INT, x::getFirst);
    }

    /** Promise 22, "Returns the number.": the greatest int. */
    static void getFirstTellsTheGreatestInt() {
        HeapAndDeque x = withRow(GREATEST_INT, 0);
        due(GREATEST_INT, x::getFirst);
    }

    /** Promise 22, "Throws `NoSuchElementException` if the row holds none": a new one. */
    static void getFirstIsRefusedByANewRow() {
        HeapAndDeque x = new HeapAndDeque();
        due(NoSuchElementException.class, x::getFirst);
    }

    /** Promise 22, "Throws `NoSuchElementException` if the row holds none": the last is taken. */
    static void getFirstIsRefusedWhenTheLastIsTaken() {
        HeapAndDeque x = withRow(6);
        x.removeLast();
        due(NoSuchElementException.class, x::getFirst);
    }

    /** Promise 22, "Throws `NoSuchElementException` if the row holds none": a full one wiped. */
    static void getFirstIsRefusedWhenAFullRowIsWiped() {
        HeapAndDeque x = withWipedRow();
        due(NoSuchElementException.class, x::getFirst);
    }

    /** Promise 22, "Throws `NoSuchElementException` if the row holds none": all are dropped. */
    static void getFirstIsRefusedWhenAllAreDropped() {
        HeapAndDeque x = withRow(6, 6);
        x.dropLike(6);
        due(NoSuchElementException.class, x::getFirst);
    }

    /** Promise 22, "Throws `NoSuchElementException` if the row holds none": the others hold. */
    static void getFirstIsRefusedWhileOnlyTheOthersHold() {
        HeapAndDeque x = withAllButTheRow();
        due(NoSuchElementException.class, x::getFirst);
    }

    // Promise 23: getLast.

    /** Promise 23, "Returns the number at the last end, which stays.": of a row of one. */
    static void getLastTellsTheOnlyNumber() {
        HeapAndDeque x = withRow(6);
        due(6, x::getLast);
    }

    /** Promise 23, "Returns the number at the last end, which stays.": of a full row. */
    static void getLastTellsTheLastOfAFullRow() {
        HeapAndDeque x = withFullRow();
        due(199, x::getLast);
    }

    /** Promise 23, "Returns the number at the last end, which stays.": the only one stays. */
    static void getLastLeavesTheOnlyNumber() {
        HeapAndDeque x = withRow(6);
        x.getLast();
        dueRow(x, 6);
    }

    /** Promise 23, "Returns the number at the last end, which stays.": a full row stays. */
    static void getLastLeavesAFullRow() {
        HeapAndDeque x = withFullRow();
        x.getLast();
        dueRow(x, upTo(LIMIT));
    }

    /** Promise 23, "Returns the number.": the least int. */
    static void getLastTellsTheLeastInt() {
        HeapAndDeque x = withRow(0, LEAST_INT);
        due(LEAST_INT, x::getLast);
    }

    /** Promise 23, "Returns the number.": the greatest int. */
    static void getLastTellsTheGreatestInt() {
        HeapAndDeque x = withRow(0, GREATEST_INT);
        due(GREATEST_INT, x::getLast);
    }

    /** Promise 23, "Throws `NoSuchElementException` if the row holds none": a new one. */
    static void getLastIsRefusedByANewRow() {
        HeapAndDeque x = new HeapAndDeque();
        due(NoSuchElementException.class, x::getLast);
    }

    /** Promise 23, "Throws `NoSuchElementException` if the row holds none": the last is taken. */
    static void getLastIsRefusedWhenTheLastIsTaken() {
        HeapAndDeque x = withRow(6);
        x.removeFirst();
        due(NoSuchElementException.class, x::getLast);
    }

    /** Promise 23, "Throws `NoSuchElementException` if the row holds none": a full one wiped. */
    static void getLastIsRefusedWhenAFullRowIsWiped() {
        HeapAndDeque x = withWipedRow();
        due(NoSuchElementException.class, x::getLast);
    }

    /** Promise 23, "Throws `NoSuchElementException` if the row holds none": all are dropped. */
    static void getLastIsRefusedWhenAllAreDropped() {
        HeapAndDeque x = withRow(6, 6);
        x.dropLike(6);
        due(NoSuchElementException.class, x::getLast);
    }

    /** Promise 23, "Throws `NoSuchElementException` if the row holds none": the others hold. */
    static void getLastIsRefusedWhileOnlyTheOthersHold() {
        HeapAndDeque x = withAllButTheRow();
        due(NoSuchElementException.class, x::getLast);
    }

    // Promise 24: removeFirst.

    /** Promise 24, "Takes the number at the first end out.": the only one. */
    static void removeFirstTakesTheOnlyNumber() {
        HeapAndDeque x = withRow(6);
        x.removeFirst();
        dueRow(x);
    }

    /** Promise 24, "Takes the number at the first end out.": out of a full row, to the last. */
    static void removeFirstEmptiesAFullRow() {
        HeapAndDeque x = withFullRow();
        for (int number = 0; number < LIMIT; number++) {
            due(number, x::removeFirst);
        }
        due(0, x::length);
    }

    /** Promise 24, "Takes the number at the first end out.": not a like one at the last end. */
    static void removeFirstTakesNoLikeOneAtTheLastEnd() {
        HeapAndDeque x = withRow(6, 7, 6);
        x.removeFirst();
        dueRow(x, 7, 6);
    }

    /** Promise 24, "Returns the number.": the least int. */
    static void removeFirstTellsTheLeastInt() {
        HeapAndDeque x = withRow(LEAST_INT, 0);
        due(LEAST_INT, x::removeFirst);
    }

    /** Promise 24, "Returns the number.": the greatest int. */
    static void removeFirstTellsTheGreatestInt() {
        HeapAndDeque x = withRow(GREATEST_INT, 0);
        due(GREATEST_INT, x::removeFirst);
    }

    /** Promise 24, "Throws `NoSuchElementException` if the row holds none": a new one. */
    static void removeFirstIsRefusedByANewRow() {
        HeapAndDeque x = new HeapAndDeque();
        due(NoSuchElementException.class, x::removeFirst);
    }

    /** Promise 24, "Throws `NoSuchElementException` if the row holds none": the last is taken. */
    static void removeFirstIsRefusedWhenTheLastIsTaken() {
        HeapAndDeque x = withRow(6);
        x.removeFirst();
        due(NoSuchElementException.class, x::removeFirst);
    }

    /** Promise 24, "Throws `NoSuchElementException` if the row holds none": a full one wiped. */
    static void removeFirstIsRefusedWhenAFullRowIsWiped() {
        HeapAndDeque x = withWipedRow();
        due(NoSuchElementException.class, x::removeFirst);
    }

    /** Promise 24, "Throws `NoSuchElementException` if the row holds none": the others hold. */
    static void removeFirstIsRefusedWhileOnlyTheOthersHold() {
        HeapAndDeque x = withAllButTheRow();
        due(NoSuchElementException.class, x::removeFirst);
    }

    // Promise 25: removeLast.

    /** Promise 25, "Takes the number at the last end out.": the only one. */
    static void removeLastTakesTheOnlyNumber() {
        HeapAndDeque x = withRow(6);
        x.removeLast();
        dueRow(x);
    }

    /** Promise 25, "Takes the number at the last end out.": out of a full row, to the last. */
    static void removeLastEmptiesAFullRow() {
        HeapAndDeque x = withFullRow();
        for (int number = LIMIT - 1; number >= 0; number--) {
            due(number, x::removeLast);
        }
        due(0, x::length);
    }

    /** Promise 25, "Takes the number at the last end out.": not a like one at the first end. */
    static void removeLastTakesNoLikeOneAtTheFirstEnd() {
        HeapAndDeque x = withRow(6, 7, 6);
        x.removeLast();
        dueRow(x, 6, 7);
    }

    /** Promise 25, "Returns the number.": the least int. */
    static void removeLastTellsTheLeastInt() {
        HeapAndDeque x = withRow(0, LEAST_INT);
        due(LEAST_INT, x::removeLast);
    }

    /** Promise 25, "Returns the number.": the greatest int. */
    static void removeLastTellsTheGreatestInt() {
        HeapAndDeque x = withRow(0, GREATEST_INT);
        due(GREATEST_INT, x::removeLast);
    }

    /** Promise 25, "Throws `NoSuchElementException` if the row holds none": a new one. */
    static void removeLastIsRefusedByANewRow() {
        HeapAndDeque x = new HeapAndDeque();
        due(NoSuchElementException.class, x::removeLast);
    }

    /** Promise 25, "Throws `NoSuchElementException` if the row holds none": the last is taken. */
    static void removeLastIsRefusedWhenTheLastIsTaken() {
        HeapAndDeque x = withRow(6);
        x.removeLast();
        due(NoSuchElementException.class, x::removeLast);
    }

    /** Promise 25, "Throws `NoSuchElementException` if the row holds none": a full one wiped. */
    static void removeLastIsRefusedWhenAFullRowIsWiped() {
        HeapAndDeque x = withWipedRow();
        due(NoSuchElementException.class, x::removeLast);
    }

    /** Promise 25, "Throws `NoSuchElementException` if the row holds none": the others hold. */
    static void removeLastIsRefusedWhileOnlyTheOthersHold() {
        HeapAndDeque x = withAllButTheRow();
        due(NoSuchElementException.class, x::removeLast);
    }

    // Promise 26: push.

    /** Promise 26, "Puts a number at the first end, as onto a stack.": of an empty row. */
    static void pushPutsIntoAnEmptyRow() {
        HeapAndDeque x = new HeapAndDeque();
        x.push(6);
        dueRow(x, 6);
    }

    /** Promise 26, "Puts a number at the first end, as onto a stack.": into the last room. */
    static void pushPutsIntoTheLastRoom() {
        HeapAndDeque x = withRowOf199();
        x.push(-1);
        due(-1, x::removeFirst);
        dueRow(x, upTo(199));
    }

    /** Promise 26, "Puts a number at the first end, as onto a stack.": 200, from empty to full. */
    static void pushFillsTheRow() {
        HeapAndDeque x = new HeapAndDeque();
        for (int number = LIMIT - 1; number >= 0; number--) {
            x.push(number);
        }
        dueRow(x, upTo(LIMIT));
    }

    /** Promise 26, "`number`: any number": the least int. */
    static void pushTakesTheLeastInt() {
        HeapAndDeque x = withRow(0);
        due(2, () -> x.push(LEAST_INT));
        dueRow(x, LEAST_INT, 0);
    }

    /** Promise 26, "`number`: any number": the greatest int. */
    static void pushTakesTheGreatestInt() {
        HeapAndDeque x = withRow(0);
        due(2, () -> x.push(GREATEST_INT));
        dueRow(x, GREATEST_INT, 0);
    }

    /** Promise 26, "Returns how many the row holds then.": the first one. */
    static void pushAnswers1ForTheFirst() {
        HeapAndDeque x = new HeapAndDeque();
        due(1, () -> x.push(6));
    }

    /** Promise 26, "Returns how many the row holds then.": the last one that it has room for. */
    static void pushAnswers200ForTheLast() {
        HeapAndDeque x = withRowOf199();
        due(200, () -> x.push(6));
    }

    /** Promise 26, "Throws `IllegalStateException` if the row holds 200": it holds 200. */
    static void pushOntoAFullRowIsRefused() {
        HeapAndDeque x = withFullRow();
        due(IllegalStateException.class, () -> x.push(6));
    }

    /** Promise 26, "Throws `IllegalStateException` if the row holds 200": it holds 199. */
    static void pushIntoTheLastRoomIsNotRefused() {
        HeapAndDeque x = withRowOf199();
        due(200, () -> x.push(199));
        due(IllegalStateException.class, () -> x.push(200));
    }

    /**
     * Promise 26, "Throws `IllegalStateException` if the row holds 200": no longer when a full
     * one has given one, and again when it is full again.
     */
    static void pushIsRefusedAgainWhenFullAgain() {
        HeapAndDeque x = withFullRow();
        due(IllegalStateException.class, () -> x.push(6));
        x.pop();
        due(200, () -> x.push(6));
        due(IllegalStateException.class, () -> x.push(6));
    }

    /** Promise 26, "Throws `IllegalStateException` if the row holds 200": the queue holds 200. */
    static void pushIsNotRefusedForAFullQueue() {
        HeapAndDeque x = withFullQueue();
        due(1, () -> x.push(6));
    }

    // Promise 27: pop.

    /** Promise 27, "Takes the number at the first end out, as from a stack.": the only one. */
    static void popTakesTheOnlyNumber() {
        HeapAndDeque x = withRow(6);
        x.pop();
        dueRow(x);
    }

    /** Promise 27, "Takes the number at the first end out, as from a stack.": out of a full row. */
    static void popEmptiesAFullRow() {
        HeapAndDeque x = withFullRow();
        for (int number = 0; number < LIMIT; number++) {
            due(number, x::pop);
        }
        due(0, x::length);
    }

    /** Promise 27, "Takes the number at the first end out, as from a stack.": of like ones. */
    static void popTakesNoLikeOneAtTheLastEnd() {
        HeapAndDeque x = withRow(6, 7, 6);
        x.pop();
        dueRow(x, 7, 6);
    }

    /** Promise 27, "Returns the number.": the least int. */
    static void popTellsTheLeastInt() {
        HeapAndDeque x = withRow(LEAST_INT, 0);
        due(LEAST_INT, x::pop);
    }

    /** Promise 27, "Returns the number.": the greatest int. */
    static void popTellsTheGreatestInt() {
        HeapAndDeque x = withRow(GREATEST_INT, 0);
        due(GREATEST_INT, x::pop);
    }

    /** Promise 27, "Throws `NoSuchElementException` if the row holds none": a new one. */
    static void popIsRefusedByANewRow() {
        HeapAndDeque x = new HeapAndDeque();
        due(NoSuchElementException.class, x::pop);
    }

    /** Promise 27, "Throws `NoSuchElementException` if the row holds none": the last is taken. */
    static void popIsRefusedWhenTheLastIsTaken() {
        HeapAndDeque x = withRow(6);
        x.pop();
        due(NoSuchElementException.class, x::pop);
    }

    /** Promise 27, "Throws `NoSuchElementException` if the row holds none": a full one wiped. */
    static void popIsRefusedWhenAFullRowIsWiped() {
        HeapAndDeque x = withWipedRow();
        due(NoSuchElementException.class, x::pop);
    }

    /** Promise 27, "Throws `NoSuchElementException` if the row holds none": the others hold. */
    static void popIsRefusedWhileOnlyTheOthersHold() {
        HeapAndDeque x = withAllButTheRow();
        due(NoSuchElementException.class, x::pop);
    }

    // Promise 28: removeFirstOccurrence.

    /**
     * Promise 28, "Takes the first one that is like a number, from the first end on, out of the
     * row.": the first of two, which stand at the two ends.
     */
    static void removeFirstOccurrenceTakesTheOneAtTheFirstEnd() {
        HeapAndDeque x = withRow(6, 1, 2, 6);
        x.removeFirstOccurrence(6);
        dueRow(x, 1, 2, 6);
    }

    /**
     * Promise 28, "Takes the first one that is like a number, from the first end on, out of the
     * row.": the only one of its kind, at the last end of a full row.
     */
    static void removeFirstOccurrenceTakesTheLastOfAFullRow() {
        HeapAndDeque x = withFullRow();
        x.removeFirstOccurrence(199);
        dueRow(x, upTo(199));
    }

    /**
     * Promise 28, "Takes the first one that is like a number, from the first end on, out of the
     * row.": the only number of the row.
     */
    static void removeFirstOccurrenceTakesTheOnlyNumber() {
        HeapAndDeque x = withRow(6);
        x.removeFirstOccurrence(6);
        dueRow(x);
    }

    /**
     * Promise 28, "Takes the first one that is like a number, from the first end on, out of the
     * row.": only one, of a row full of like ones.
     */
    static void removeFirstOccurrenceTakesOneOf200LikeOnes() {
        HeapAndDeque x = withRow(like(6, LIMIT));
        x.removeFirstOccurrence(6);
        dueRow(x, like(6, 199));
    }

    /**
     * Promise 28, "Takes the first one that is like a number, from the first end on, out of the
     * row.": of a row that was filled from both ends.
     */
    static void removeFirstOccurrenceTakesTheFirstOfARowFromBothEnds() {
        HeapAndDeque x = withRowFromBothEnds();
        x.removeFirstOccurrence(2);
        dueRow(x, 1, 3, 2, 1);
    }

    /**
     * Promise 28, "Takes the first one that is like a number, from the first end on, out of the
     * row.": none is like it, and a full row stays.
     */
    static void removeFirstOccurrenceTakesNothingThatIsNotLike() {
        HeapAndDeque x = withFullRow();
        x.removeFirstOccurrence(200);
        dueRow(x, upTo(LIMIT));
    }

    /** Promise 28, "`number`: any number": the least int. */
    static void removeFirstOccurrenceTakesTheLeastInt() {
        HeapAndDeque x = withRow(GREATEST_INT, LEAST_INT, 0, LEAST_INT);
        due(true, () -> x.removeFirstOccurrence(LEAST_INT));
        dueRow(x, GREATEST_INT, 0, LEAST_INT);
    }

    /** Promise 28, "`number`: any number": the greatest int. */
    static void removeFirstOccurrenceTakesTheGreatestInt() {
        HeapAndDeque x = withRow(LEAST_INT, GREATEST_INT, 0, GREATEST_INT);
        due(true, () -> x.removeFirstOccurrence(GREATEST_INT));
        dueRow(x, LEAST_INT, 0, GREATEST_INT);
    }

    /** Promise 28, "Returns whether there was one.": the row is empty. */
    static void removeFirstOccurrenceOutOfAnEmptyRowTellsNone() {
        HeapAndDeque x = new HeapAndDeque();
        due(false, () -> x.removeFirstOccurrence(0));
    }

    /** Promise 28, "Returns whether there was one.": the row is full, and has none such. */
    static void removeFirstOccurrenceOutOfAFullRowTellsNone() {
        HeapAndDeque x = withFullRow();
        due(false, () -> x.removeFirstOccurrence(200));
        due(false, () -> x.removeFirstOccurrence(-1));
    }

    /** Promise 28, "Returns whether there was one.": the row is full, with one at each end. */
    static void removeFirstOccurrenceOutOfAFullRowTellsOne() {
        HeapAndDeque x = withFullRow();
        due(true, () -> x.removeFirstOccurrence(0));
        due(true, () -> x.removeFirstOccurrence(199));
    }

    /** Promise 28, "Returns whether there was one.": there was one, but it is taken. */
    static void removeFirstOccurrenceTellsNoneWhenTheLastLikeOneIsTaken() {
        HeapAndDeque x = withRow(6, 6);
        due(true, () -> x.removeFirstOccurrence(6));
        due(true, () -> x.removeFirstOccurrence(6));
        due(false, () -> x.removeFirstOccurrence(6));
    }

    /** Promise 28, "Returns whether there was one.": there was one in a row that is wiped. */
    static void removeFirstOccurrenceTellsNoneOfAWipedRow() {
        HeapAndDeque x = withWipedRow();
        due(false, () -> x.removeFirstOccurrence(0));
        due(false, () -> x.removeFirstOccurrence(199));
    }

    // Promise 29: removeLastOccurrence.

    /**
     * Promise 29, "Takes the last one that is like a number out of the row.": the last of two,
     * which stand at the two ends.
     */
    static void removeLastOccurrenceTakesTheOneAtTheLastEnd() {
        HeapAndDeque x = withRow(6, 1, 2, 6);
        x.removeLastOccurrence(6);
        dueRow(x, 6, 1, 2);
    }

    /**
     * Promise 29, "Takes the last one that is like a number out of the row.": the only one of its
     * kind, at the first end of a full row.
     */
    static void removeLastOccurrenceTakesTheFirstOfAFullRow() {
        HeapAndDeque x = withFullRow();
        x.removeLastOccurrence(0);
        due(1, x::removeFirst);
        due(198, x::length);
        due(2, x::getFirst);
        due(199, x::getLast);
    }

    /**
     * Promise 29, "Takes the last one that is like a number out of the row.": the only number of
     * the row.
     */
    static void removeLastOccurrenceTakesTheOnlyNumber() {
        HeapAndDeque x = withRow(6);
        x.removeLastOccurrence(6);
        dueRow(x);
    }

    /**
     * Promise 29, "Takes the last one that is like a number out of the row.": only one, of a row
     * full of like ones.
     */
    static void removeLastOccurrenceTakesOneOf200LikeOnes() {
        HeapAndDeque x = withRow(like(6, LIMIT));
        x.removeLastOccurrence(6);
        dueRow(x, like(6, 199));
    }

    /**
     * Promise 29, "Takes the last one that is like a number out of the row.": of a row that was
     * filled from both ends.
     */
    static void removeLastOccurrenceTakesTheLastOfARowFromBothEnds() {
        HeapAndDeque x = withRowFromBothEnds();
        x.removeLastOccurrence(2);
        dueRow(x, 1, 2, 3, 1);
    }

    /**
     * Promise 29, "Takes the last one that is like a number out of the row.": none is like it,
     * and a full row stays.
     */
    static void removeLastOccurrenceTakesNothingThatIsNotLike() {
        HeapAndDeque x = withFullRow();
        x.removeLastOccurrence(200);
        dueRow(x, upTo(LIMIT));
    }

    /** Promise 29, "`number`: any number": the least int. */
    static void removeLastOccurrenceTakesTheLeastInt() {
        HeapAndDeque x = withRow(LEAST_INT, 0, LEAST_INT, GREATEST_INT);
        due(true, () -> x.removeLastOccurrence(LEAST_INT));
        dueRow(x, LEAST_INT, 0, GREATEST_INT);
    }

    /** Promise 29, "`number`: any number": the greatest int. */
    static void removeLastOccurrenceTakesTheGreatestInt() {
        HeapAndDeque x = withRow(GREATEST_INT, 0, GREATEST_INT, LEAST_INT);
        due(true, () -> x.removeLastOccurrence(GREATEST_INT));
        dueRow(x, GREATEST_INT, 0, LEAST_INT);
    }

    /** Promise 29, "Returns whether there was one.": the row is empty. */
    static void removeLastOccurrenceOutOfAnEmptyRowTellsNone() {
        HeapAndDeque x = new HeapAndDeque();
        due(false, () -> x.removeLastOccurrence(0));
    }

    /** Promise 29, "Returns whether there was one.": the row is full, and has none such. */
    static void removeLastOccurrenceOutOfAFullRowTellsNone() {
        HeapAndDeque x = withFullRow();
        due(false, () -> x.removeLastOccurrence(200));
        due(false, () -> x.removeLastOccurrence(-1));
    }

    /** Promise 29, "Returns whether there was one.": the row is full, with one at each end. */
    static void removeLastOccurrenceOutOfAFullRowTellsOne() {
        HeapAndDeque x = withFullRow();
        due(true, () -> x.removeLastOccurrence(0));
        due(true, () -> x.removeLastOccurrence(199));
    }

    /** Promise 29, "Returns whether there was one.": there was one, but it is taken. */
    static void removeLastOccurrenceTellsNoneWhenTheLastLikeOneIsTaken() {
        HeapAndDeque x = withRow(6, 6);
        due(true, () -> x.removeLastOccurrence(6));
        due(true, () -> x.removeLastOccurrence(6));
        due(false, () -> x.removeLastOccurrence(6));
    }

    /** Promise 29, "Returns whether there was one.": there was one in a row that is wiped. */
    static void removeLastOccurrenceTellsNoneOfAWipedRow() {
        HeapAndDeque x = withWipedRow();
        due(false, () -> x.removeLastOccurrence(0));
        due(false, () -> x.removeLastOccurrence(199));
    }

    // Promise 30: has.

    /** Promise 30, "Tells whether the row holds a number.": an empty one. */
    static void anEmptyRowHasNone() {
        HeapAndDeque x = new HeapAndDeque();
        due(false, () -> x.has(0));
    }

    /** Promise 30, "Tells whether the row holds a number.": the only one. */
    static void hasTellsTheOnlyNumber() {
        HeapAndDeque x = withRow(6);
        due(true, () -> x.has(6));
        due(false, () -> x.has(5));
        due(false, () -> x.has(7));
    }

    /** Promise 30, "Tells whether the row holds a number.": each of a full one. */
    static void hasTellsEachOfAFullRow() {
        HeapAndDeque x = withFullRow();
        for (int i = 0; i < LIMIT; i++) {
            int number = i;
            due(true, () -> x.has(number));
        }
    }

    /** Promise 30, "Tells whether the row holds a number.": none besides those of a full one. */
    static void aFullRowHasNoOther() {
        HeapAndDeque x = withFullRow();
        due(false, () -> x.has(-1));
        due(false, () -> x.has(200));
    }

    /** Promise 30, "`number`: any number": the least int, which only one of two rows holds. */
    static void hasTellsTheLeastInt() {
        HeapAndDeque x = withRow(1, LEAST_INT);
        due(true, () -> x.has(LEAST_INT));
        HeapAndDeque without = withRow(1, GREATEST_INT);
        due(false, () -> without.has(LEAST_INT));
    }

    /** Promise 30, "`number`: any number": the greatest int, which only one of two rows holds. */
    static void hasTellsTheGreatestInt() {
        HeapAndDeque x = withRow(1, GREATEST_INT);
        due(true, () -> x.has(GREATEST_INT));
        HeapAndDeque without = withRow(1, LEAST_INT);
        due(false, () -> without.has(GREATEST_INT));
    }

    /** Promise 30, "Returns whether it does.": no longer when it is taken at the first end. */
    static void hasTellsNoneThatIsTakenAtTheFirstEnd() {
        HeapAndDeque x = withFullRow();
        x.removeFirst();
        due(false, () -> x.has(0));
    }

    /** Promise 30, "Returns whether it does.": no longer when it is taken at the last end. */
    static void hasTellsNoneThatIsTakenAtTheLastEnd() {
        HeapAndDeque x = withFullRow();
        x.removeLast();
        due(false, () -> x.has(199));
    }

    /** Promise 30, "Returns whether it does.": no longer when a full row is wiped. */
    static void hasTellsNoneOfAWipedRow() {
        HeapAndDeque x = withWipedRow();
        due(false, () -> x.has(0));
        due(false, () -> x.has(199));
    }

    /** Promise 30, "Returns whether it does.": one of two like ones is taken. */
    static void hasTellsTheOtherOfTwoLikeOnes() {
        HeapAndDeque x = withRow(6, 6);
        x.removeFirst();
        due(true, () -> x.has(6));
    }

    /** Promise 30, "Returns whether it does.": only the queue and a pair have such a number. */
    static void hasTellsNoneOfTheOthers() {
        HeapAndDeque x = withAllButTheRow();
        due(false, () -> x.has(1));
    }

    // Promise 31: length.

    /** Promise 31, "Returns how many the row holds.": a new one. */
    static void theLengthOfANewRowIs0() {
        HeapAndDeque x = new HeapAndDeque();
        due(0, x::length);
    }

    /** Promise 31, "Returns how many the row holds.": a full one. */
    static void theLengthOfAFullRowIs200() {
        HeapAndDeque x = withFullRow();
        due(200, x::length);
    }

    /** Promise 31, "Returns how many the row holds.": a full one, after refused calls. */
    static void theLengthStays200AfterARefusal() {
        HeapAndDeque x = withFullRow();
        due(IllegalStateException.class, () -> x.addFirst(6));
        due(IllegalStateException.class, () -> x.addLast(6));
        due(200, x::length);
    }

    /** Promise 31, "Returns how many the row holds.": an empty one, after refused calls. */
    static void theLengthStays0AfterARefusal() {
        HeapAndDeque x = new HeapAndDeque();
        due(NoSuchElementException.class, x::removeFirst);
        due(NoSuchElementException.class, x::removeLast);
        due(0, x::length);
    }

    /** Promise 31, "Returns how many the row holds.": one that was full, and is empty. */
    static void theLengthOfAWipedRowIs0() {
        HeapAndDeque x = withWipedRow();
        due(0, x::length);
    }

    /** Promise 31, "Returns how many the row holds.": an empty one while the others hold. */
    static void theLengthOfAnEmptyRowBesideAFullQueueIs0() {
        HeapAndDeque x = withFullQueue();
        x.offerPair(1, 1);
        due(0, x::length);
    }

    // Promise 32: wipe.

    /** Promise 32, "Empties the row.": a full one, which has room for 200 then. */
    static void wipeEmptiesAFullRow() {
        HeapAndDeque x = withFullRow();
        x.wipe();
        due(0, x::length);
        for (int i = 1; i <= LIMIT; i++) {
            int held = i;
            due(held, () -> x.addLast(-held));
        }
        due(IllegalStateException.class, () -> x.addLast(0));
        due(-1, x::getFirst);
        due(-200, x::getLast);
    }

    /** Promise 32, "Empties the row.": one with a single number. */
    static void wipeEmptiesARowOfOne() {
        HeapAndDeque x = withRow(6);
        x.wipe();
        dueRow(x);
    }

    /** Promise 32, "Empties the row.": an empty one stays empty. */
    static void wipeLeavesAnEmptyRowEmpty() {
        HeapAndDeque x = new HeapAndDeque();
        x.wipe();
        dueRow(x);
    }

    /** Promise 32, "Empties the row.": the row alone, not the queue and not the pairs. */
    static void wipeEmptiesNothingElse() {
        HeapAndDeque x = withAllButTheRow();
        x.addLast(6);
        x.wipe();
        dueQueue(x, 1);
        duePairs(x, 1001L);
    }

    /** Promise 32, "Returns how many it held.": an empty one. */
    static void wipeAnswers0OfAnEmptyRow() {
        HeapAndDeque x = new HeapAndDeque();
        due(0, x::wipe);
    }

    /** Promise 32, "Returns how many it held.": one with a single number. */
    static void wipeAnswers1OfARowOfOne() {
        HeapAndDeque x = withRow(6);
        due(1, x::wipe);
    }

    /** Promise 32, "Returns how many it held.": a full one, and the same one once more. */
    static void wipeAnswers200OfAFullRow() {
        HeapAndDeque x = withFullRow();
        due(200, x::wipe);
        due(0, x::wipe);
    }

    // Promise 33: at.

    /**
     * Promise 33, "Returns the number at a place, by a walk from the first end.": the only one.
     */
    static void atTellsTheOnlyNumber() {
        HeapAndDeque x = withRow(6);
        due(6, () -> x.at(0));
    }

    /**
     * Promise 33, "Returns the number at a place, by a walk from the first end.": each of a row
     * that was filled from both ends.
     */
    static void atTellsEachOfARowFromBothEnds() {
        dueRow(withRowFromBothEnds(), 1, 2, 3, 2, 1);
    }

    /** Promise 33, "Returns the number at a place, by a walk from the first end.": each of 200. */
    static void atTellsEachOfAFullRow() {
        dueRow(withRow(mixed(LIMIT)), mixed(LIMIT));
    }

    /** Promise 33, "`place`: the place, from 0": 0, the first one. */
    static void thePlace0IsTheFirst() {
        HeapAndDeque x = withFullRow();
        due(0, () -> x.at(0));
    }

    /** Promise 33, "`place`: the place, from 0": 199, the last one of a full row. */
    static void thePlace199IsTheLastOfAFullRow() {
        HeapAndDeque x = withFullRow();
        due(199, () -> x.at(199));
    }

    /** Promise 33, "Returns the number.": the least int. */
    static void atTellsTheLeastInt() {
        HeapAndDeque x = withRow(0, LEAST_INT);
        due(LEAST_INT, () -> x.at(1));
    }

    /** Promise 33, "Returns the number.": the greatest int. */
    static void atTellsTheGreatestInt() {
        HeapAndDeque x = withRow(0, GREATEST_INT);
        due(GREATEST_INT, () -> x.at(1));
    }

    /** Promise 33, "Throws `IndexOutOfBoundsException` if there is no such place": below by 1. */
    static void atRefusesThePlaceMinus1() {
        HeapAndDeque x = withRow(5, 6, 7);
        due(IndexOutOfBoundsException.class, () -> x.at(-1));
    }

    /** Promise 33, "Throws `IndexOutOfBoundsException` if there is no such place": above by 1. */
    static void atRefusesThePlaceBehindTheLast() {
        HeapAndDeque x = withRow(5, 6, 7);
        due(7, () -> x.at(2));
        due(IndexOutOfBoundsException.class, () -> x.at(3));
    }

    /** Promise 33, "Throws `IndexOutOfBoundsException` if there is no such place": far below. */
    static void atRefusesTheLeastInt() {
        HeapAndDeque x = withRow(5, 6, 7);
        due(IndexOutOfBoundsException.class, () -> x.at(LEAST_INT));
    }

    /** Promise 33, "Throws `IndexOutOfBoundsException` if there is no such place": far above. */
    static void atRefusesTheGreatestInt() {
        HeapAndDeque x = withRow(5, 6, 7);
        due(IndexOutOfBoundsException.class, () -> x.at(GREATEST_INT));
    }

    /** Promise 33, "Throws `IndexOutOfBoundsException` if there is no such place": empty. */
    static void atOfAnEmptyRowIsRefused() {
        HeapAndDeque x = new HeapAndDeque();
        due(IndexOutOfBoundsException.class, () -> x.at(0));
    }

    /** Promise 33, "Throws `IndexOutOfBoundsException` if there is no such place": full, below. */
    static void atRefusesThePlaceMinus1OfAFullRow() {
        HeapAndDeque x = withFullRow();
        due(IndexOutOfBoundsException.class, () -> x.at(-1));
    }

    /** Promise 33, "Throws `IndexOutOfBoundsException` if there is no such place": full, above. */
    static void atRefusesThePlace200OfAFullRow() {
        HeapAndDeque x = withFullRow();
        due(IndexOutOfBoundsException.class, () -> x.at(200));
    }

    /**
     * Promise 33, "Throws `IndexOutOfBoundsException` if there is no such place": there was one,
     * till the last number was taken.
     */
    static void atRefusesAPlaceThatIsTaken() {
        HeapAndDeque x = withRow(5, 6, 7);
        x.removeLast();
        due(IndexOutOfBoundsException.class, () -> x.at(2));
    }

    /**
     * Promise 33, "Throws `IndexOutOfBoundsException` if there is no such place": there was one,
     * till a full row was wiped.
     */
    static void atRefusesThePlacesOfAWipedRow() {
        HeapAndDeque x = withWipedRow();
        due(IndexOutOfBoundsException.class, () -> x.at(0));
        due(IndexOutOfBoundsException.class, () -> x.at(199));
    }

    // Promise 34: back.

    /**
     * Promise 34, "Returns the number at a place counted from the last end, by a walk from
     * there.": the only one.
     */
    static void backTellsTheOnlyNumber() {
        HeapAndDeque x = withRow(6);
        due(6, () -> x.back(0));
    }

    /**
     * Promise 34, "Returns the number at a place counted from the last end, by a walk from
     * there.": each of a row that was filled from both ends.
     */
    static void backTellsEachOfARowFromBothEnds() {
        HeapAndDeque x = withRowFromBothEnds();
        x.addLast(-5);
        int[] fromTheLast = {-5, 1, 2, 3, 2, 1};
        for (int i = 0; i < fromTheLast.length; i++) {
            int place = i;
            due(fromTheLast[place], () -> x.back(place));
        }
    }

    /**
     * Promise 34, "Returns the number at a place counted from the last end, by a walk from
     * there.": each of a full row.
     */
    static void backTellsEachOfAFullRow() {
        HeapAndDeque x = withFullRow();
        for (int i = 0; i < LIMIT; i++) {
            int place = i;
            due(199 - place, () -> x.back(place));
        }
    }

    /** Promise 34, "`place`: the place, 0 for the last one": 0. */
    static void thePlace0FromTheLastEndIsTheLast() {
        HeapAndDeque x = withFullRow();
        due(199, () -> x.back(0));
    }

    /** Promise 34, "`place`: the place, 0 for the last one": 199, the first of a full row. */
    static void thePlace199FromTheLastEndIsTheFirstOfAFullRow() {
        HeapAndDeque x = withFullRow();
        due(0, () -> x.back(199));
    }

    /** Promise 34, "Returns the number.": the least int. */
    static void backTellsTheLeastInt() {
        HeapAndDeque x = withRow(LEAST_INT, 0);
        due(LEAST_INT, () -> x.back(1));
    }

    /** Promise 34, "Returns the number.": the greatest int. */
    static void backTellsTheGreatestInt() {
        HeapAndDeque x = withRow(GREATEST_INT, 0);
        due(GREATEST_INT, () -> x.back(1));
    }

    /** Promise 34, "Throws `IndexOutOfBoundsException` if there is no such place": below by 1. */
    static void backRefusesThePlaceMinus1() {
        HeapAndDeque x = withRow(5, 6, 7);
        due(IndexOutOfBoundsException.class, () -> x.back(-1));
    }

    /** Promise 34, "Throws `IndexOutOfBoundsException` if there is no such place": above by 1. */
    static void backRefusesThePlaceAheadOfTheFirst() {
        HeapAndDeque x = withRow(5, 6, 7);
        due(5, () -> x.back(2));
        due(IndexOutOfBoundsException.class, () -> x.back(3));
    }

    /** Promise 34, "Throws `IndexOutOfBoundsException` if there is no such place": far below. */
    static void backRefusesTheLeastInt() {
        HeapAndDeque x = withRow(5, 6, 7);
        due(IndexOutOfBoundsException.class, () -> x.back(LEAST_INT));
    }

    /** Promise 34, "Throws `IndexOutOfBoundsException` if there is no such place": far above. */
    static void backRefusesTheGreatestInt() {
        HeapAndDeque x = withRow(5, 6, 7);
        due(IndexOutOfBoundsException.class, () -> x.back(GREATEST_INT));
    }

    /** Promise 34, "Throws `IndexOutOfBoundsException` if there is no such place": empty. */
    static void backOfAnEmptyRowIsRefused() {
        HeapAndDeque x = new HeapAndDeque();
        due(IndexOutOfBoundsException.class, () -> x.back(0));
    }

    /** Promise 34, "Throws `IndexOutOfBoundsException` if there is no such place": full, below. */
    static void backRefusesThePlaceMinus1OfAFullRow() {
        HeapAndDeque x = withFullRow();
        due(IndexOutOfBoundsException.class, () -> x.back(-1));
    }

    /** Promise 34, "Throws `IndexOutOfBoundsException` if there is no such place": full, above. */
    static void backRefusesThePlace200OfAFullRow() {
        HeapAndDeque x = withFullRow();
        due(IndexOutOfBoundsException.class, () -> x.back(200));
    }

    /**
     * Promise 34, "Throws `IndexOutOfBoundsException` if there is no such place": there was one,
     * till the first number was taken.
     */
    static void backRefusesAPlaceThatIsTaken() {
        HeapAndDeque x = withRow(5, 6, 7);
        x.removeFirst();
        due(IndexOutOfBoundsException.class, () -> x.back(2));
    }

    /**
     * Promise 34, "Throws `IndexOutOfBoundsException` if there is no such place": there was one,
     * till a full row was wiped.
     */
    static void backRefusesThePlacesOfAWipedRow() {
        HeapAndDeque x = withWipedRow();
        due(IndexOutOfBoundsException.class, () -> x.back(0));
        due(IndexOutOfBoundsException.class, () -> x.back(199));
    }

    // Promise 35: dropLike.

    /**
     * Promise 35, "Takes all that are like a number out of the row, on one walk from the first
     * end.": of an empty row.
     */
    static void dropLikeLeavesAnEmptyRowEmpty() {
        HeapAndDeque x = new HeapAndDeque();
        x.dropLike(0);
        dueRow(x);
    }

    /**
     * Promise 35, "Takes all that are like a number out of the row, on one walk from the first
     * end.": the only number.
     */
    static void dropLikeTakesTheOnlyNumber() {
        HeapAndDeque x = withRow(6);
        x.dropLike(6);
        dueRow(x);
    }

    /**
     * Promise 35, "Takes all that are like a number out of the row, on one walk from the first
     * end.": those at the two ends.
     */
    static void dropLikeTakesThoseAtTheEnds() {
        HeapAndDeque x = withRow(6, 1, 2, 6);
        x.dropLike(6);
        dueRow(x, 1, 2);
    }

    /**
     * Promise 35, "Takes all that are like a number out of the row, on one walk from the first
     * end.": those that stand one behind another, at the ends and amidst.
     */
    static void dropLikeTakesNeighbours() {
        HeapAndDeque x = withRow(6, 6, 6, 1, 6, 6, 2, 6, 6);
        x.dropLike(6);
        dueRow(x, 1, 2);
    }

    /**
     * Promise 35, "Takes all that are like a number out of the row, on one walk from the first
     * end.": all of a full row.
     */
    static void dropLikeTakesAllOfAFullRow() {
        HeapAndDeque x = withRow(like(6, LIMIT));
        x.dropLike(6);
        dueRow(x);
    }

    /**
     * Promise 35, "Takes all that are like a number out of the row, on one walk from the first
     * end.": every other one of a full row, the last one among them.
     */
    static void dropLikeTakesHalfOfAFullRow() {
        HeapAndDeque x = new HeapAndDeque();
        for (int number = 0; number < LIMIT / 2; number++) {
            x.addLast(number);
            x.addLast(-6);
        }
        x.dropLike(-6);
        dueRow(x, upTo(LIMIT / 2));
    }

    /**
     * Promise 35, "Takes all that are like a number out of the row, on one walk from the first
     * end.": none is like it, and a full row stays.
     */
    static void dropLikeTakesNothingThatIsNotLike() {
        HeapAndDeque x = withFullRow();
        x.dropLike(200);
        dueRow(x, upTo(LIMIT));
    }

    /**
     * Promise 35, "Takes all that are like a number out of the row, on one walk from the first
     * end.": of a row that was filled from both ends.
     */
    static void dropLikeTakesAllOfARowFromBothEnds() {
        HeapAndDeque x = withRowFromBothEnds();
        x.dropLike(1);
        dueRow(x, 2, 3, 2);
    }

    /**
     * Promise 35, "Takes all that are like a number out of the row, on one walk from the first
     * end.": the row alone, not the queue and not the pairs.
     */
    static void dropLikeTakesNothingElse() {
        HeapAndDeque x = withAllButTheRow();
        x.addLast(1);
        x.dropLike(1);
        dueQueue(x, 1);
        duePairs(x, 1001L);
    }

    /** Promise 35, "`number`: any number": the least int. */
    static void dropLikeTakesTheLeastInt() {
        HeapAndDeque x = withRow(LEAST_INT, GREATEST_INT, LEAST_INT);
        due(2, () -> x.dropLike(LEAST_INT));
        dueRow(x, GREATEST_INT);
    }

    /** Promise 35, "`number`: any number": the greatest int. */
    static void dropLikeTakesTheGreatestInt() {
        HeapAndDeque x = withRow(GREATEST_INT, LEAST_INT, GREATEST_INT);
        due(2, () -> x.dropLike(GREATEST_INT));
        dueRow(x, LEAST_INT);
    }

    /** Promise 35, "Returns how many they were.": the row is empty. */
    static void dropLikeAnswers0OfAnEmptyRow() {
        HeapAndDeque x = new HeapAndDeque();
        due(0, () -> x.dropLike(0));
    }

    /** Promise 35, "Returns how many they were.": the only number of the row. */
    static void dropLikeAnswers1OfARowOfOne() {
        HeapAndDeque x = withRow(6);
        due(1, () -> x.dropLike(6));
    }

    /** Promise 35, "Returns how many they were.": the row is full, and has none such. */
    static void dropLikeAnswers0OfAFullRow() {
        HeapAndDeque x = withFullRow();
        due(0, () -> x.dropLike(200));
    }

    /** Promise 35, "Returns how many they were.": all of a full row, and none once more. */
    static void dropLikeAnswers200OfAFullRow() {
        HeapAndDeque x = withRow(like(6, LIMIT));
        due(200, () -> x.dropLike(6));
        due(0, () -> x.dropLike(6));
    }

    // Promise 36: walk.

    /** What is due of a walk over the numbers: the last 64 bits of a sum that has no bound. */
    private static long roundSum(int... numbers) {
        BigInteger sum = BigInteger.valueOf(7);
        for (int number : numbers) {
            sum = sum.multiply(BigInteger.valueOf(31)).add(BigInteger.valueOf(number));
        }
        return sum.longValue();
    }

    /**
     * Promise 36, "Returns a sum over a walk from the first end to the last one.": of one number,
     * which is both.
     */
    static void walkGoesOverTheOnlyNumber() {
        HeapAndDeque x = withRow(6);
        due(223L, x::walk);
    }

    /**
     * Promise 36, "Returns a sum over a walk from the first end to the last one.": over a row
     * that was filled from both ends.
     */
    static void walkGoesOverARowFromBothEnds() {
        HeapAndDeque x = withRowFromBothEnds();
        x.addLast(-5);
        due(roundSum(1, 2, 3, 2, 1, -5), x::walk);
    }

    /** Promise 36, "Returns a sum over a walk from the first end to the last one.": a full row. */
    static void walkGoesOverAFullRow() {
        HeapAndDeque x = withRow(mixed(LIMIT));
        due(roundSum(mixed(LIMIT)), x::walk);
    }

    /** Promise 36, "Returns a sum over a walk from the first end to the last one.": all stay. */
    static void walkLeavesAFullRow() {
        HeapAndDeque x = withFullRow();
        x.walk();
        dueRow(x, upTo(LIMIT));
    }

    /** Promise 36, "Returns a sum over a walk from the first end to the last one.": wiped. */
    static void walkGoesOverNoneOfAWipedRow() {
        HeapAndDeque x = withWipedRow();
        due(7L, x::walk);
    }

    /**
     * Promise 36, "Returns 7 at first, then for each number 31 times itself plus the number, a
     * long that goes round.": 7, of an empty row.
     */
    static void theWalkOverAnEmptyRowIs7() {
        HeapAndDeque x = new HeapAndDeque();
        due(7L, x::walk);
    }

    /**
     * Promise 36, "Returns 7 at first, then for each number 31 times itself plus the number, a
     * long that goes round.": the least int is added, the sum being too small for an int.
     */
    static void theWalkAddsTheLeastInt() {
        HeapAndDeque x = withRow(LEAST_INT);
        due(-2147483431L, x::walk);
    }

    /**
     * Promise 36, "Returns 7 at first, then for each number 31 times itself plus the number, a
     * long that goes round.": the greatest int is added, the sum being too large for an int.
     */
    static void theWalkAddsTheGreatestInt() {
        HeapAndDeque x = withRow(GREATEST_INT);
        due(2147483864L, x::walk);
    }

    /**
     * Promise 36, "Returns 7 at first, then for each number 31 times itself plus the number, a
     * long that goes round.": over twelve times 0 it does not go round yet.
     */
    static void theWalkGoesUpToTheLastSumBelowTheTop() {
        HeapAndDeque x = withRow(like(0, 12));
        due(5513639486519848327L, x::walk);
    }

    /**
     * Promise 36, "Returns 7 at first, then for each number 31 times itself plus the number, a
     * long that goes round.": over thirteen times 0 it goes round at the top.
     */
    static void theWalkGoesRoundAtTheTop() {
        HeapAndDeque x = withRow(like(0, 13));
        due(4902127418729333593L, x::walk);
    }

    /**
     * Promise 36, "Returns 7 at first, then for each number 31 times itself plus the number, a
     * long that goes round.": over the least int and six times 0 it does not go round yet, and
     * over one 0 more it goes round at the bottom.
     */
    static void theWalkGoesRoundAtTheBottom() {
        HeapAndDeque x = withRow(LEAST_INT, 0, 0, 0, 0, 0, 0);
        due(-1905899449899009511L, x::walk);
        x.addLast(0);
        due(-3742650725740639993L, x::walk);
    }

    /**
     * Promise 36, "Returns 7 at first, then for each number 31 times itself plus the number, a
     * long that goes round.": over 200 least ints it goes round many times.
     */
    static void theWalkGoesRoundOver200LeastInts() {
        HeapAndDeque x = withRow(like(LEAST_INT, LIMIT));
        due(roundSum(like(LEAST_INT, LIMIT)), x::walk);
    }

    /**
     * Promise 36, "Returns 7 at first, then for each number 31 times itself plus the number, a
     * long that goes round.": over 200 greatest ints it goes round many times.
     */
    static void theWalkGoesRoundOver200GreatestInts() {
        HeapAndDeque x = withRow(like(GREATEST_INT, LIMIT));
        due(roundSum(like(GREATEST_INT, LIMIT)), x::walk);
    }

    // Promise 37: walkBack.

    /**
     * Promise 37, "Returns a sum over a walk from the last end to the first one.": of one number,
     * which is both.
     */
    static void walkBackGoesOverTheOnlyNumber() {
        HeapAndDeque x = withRow(6);
        due(223L, x::walkBack);
    }

    /**
     * Promise 37, "Returns a sum over a walk from the last end to the first one.": over a row
     * that was filled from both ends.
     */
    static void walkBackGoesOverARowFromBothEnds() {
        HeapAndDeque x = withRowFromBothEnds();
        x.addLast(-5);
        due(roundSum(-5, 1, 2, 3, 2, 1), x::walkBack);
    }

    /** Promise 37, "Returns a sum over a walk from the last end to the first one.": a full row. */
    static void walkBackGoesOverAFullRow() {
        HeapAndDeque x = new HeapAndDeque();
        for (int number : mixed(LIMIT)) {
            x.addFirst(number);
        }
        due(roundSum(mixed(LIMIT)), x::walkBack);
    }

    /** Promise 37, "Returns a sum over a walk from the last end to the first one.": all stay. */
    static void walkBackLeavesAFullRow() {
        HeapAndDeque x = withFullRow();
        x.walkBack();
        dueRow(x, upTo(LIMIT));
    }

    /** Promise 37, "Returns a sum over a walk from the last end to the first one.": wiped. */
    static void walkBackGoesOverNoneOfAWipedRow() {
        HeapAndDeque x = withWipedRow();
        due(7L, x::walkBack);
    }

    /**
     * Promise 37, "Returns 7 at first, then for each number 31 times itself plus the number, a
     * long that goes round.": 7, of an empty row.
     */
    static void theWalkBackOverAnEmptyRowIs7() {
        HeapAndDeque x = new HeapAndDeque();
        due(7L, x::walkBack);
    }

    /**
     * Promise 37, "Returns 7 at first, then for each number 31 times itself plus the number, a
     * long that goes round.": the least int is added, the sum being too small for an int.
     */
    static void theWalkBackAddsTheLeastInt() {
        HeapAndDeque x = withRow(LEAST_INT);
        due(-2147483431L, x::walkBack);
    }

    /**
     * Promise 37, "Returns 7 at first, then for each number 31 times itself plus the number, a
     * long that goes round.": the greatest int is added, the sum being too large for an int.
     */
    static void theWalkBackAddsTheGreatestInt() {
        HeapAndDeque x = withRow(GREATEST_INT);
        due(2147483864L, x::walkBack);
    }

    /**
     * Promise 37, "Returns 7 at first, then for each number 31 times itself plus the number, a
     * long that goes round.": over twelve times 0 it does not go round yet.
     */
    static void theWalkBackGoesUpToTheLastSumBelowTheTop() {
        HeapAndDeque x = withRow(like(0, 12));
        due(5513639486519848327L, x::walkBack);
    }

    /**
     * Promise 37, "Returns 7 at first, then for each number 31 times itself plus the number, a
     * long that goes round.": over thirteen times 0 it goes round at the top.
     */
    static void theWalkBackGoesRoundAtTheTop() {
        HeapAndDeque x = withRow(like(0, 13));
        due(4902127418729333593L, x::walkBack);
    }

    /**
     * Promise 37, "Returns 7 at first, then for each number 31 times itself plus the number, a
     * long that goes round.": over the least int and six times 0 it does not go round yet, and
     * over one 0 more it goes round at the bottom.
     */
    static void theWalkBackGoesRoundAtTheBottom() {
        HeapAndDeque x = withRow(0, 0, 0, 0, 0, 0, LEAST_INT);
        due(-1905899449899009511L, x::walkBack);
        x.addFirst(0);
        due(-3742650725740639993L, x::walkBack);
    }

    /**
     * Promise 37, "Returns 7 at first, then for each number 31 times itself plus the number, a
     * long that goes round.": over 200 least ints it goes round many times.
     */
    static void theWalkBackGoesRoundOver200LeastInts() {
        HeapAndDeque x = withRow(like(LEAST_INT, LIMIT));
        due(roundSum(like(LEAST_INT, LIMIT)), x::walkBack);
    }

    /**
     * Promise 37, "Returns 7 at first, then for each number 31 times itself plus the number, a
     * long that goes round.": over 200 greatest ints it goes round many times.
     */
    static void theWalkBackGoesRoundOver200GreatestInts() {
        HeapAndDeque x = withRow(like(GREATEST_INT, LIMIT));
        due(roundSum(like(GREATEST_INT, LIMIT)), x::walkBack);
    }

    public static void main(String[] args) {
        runTestsOf(RowBoundaryTest.class);
    }
}
