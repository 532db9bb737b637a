import java.util.NoSuchElementException;

/** A test for each boundary case that a sentence of "What it is" or of "Terms" names. */
public final class TermsBoundaryTest extends DueAnswers {
    // What it is.

    /**
     * What it is, "An object is used for at most 512 calls after it has been made; what later
     * calls answer is free.": the 512th call is answered yet, at the queue.
     */
    static void theQueueAnswersThe512thCall() {
        HeapAndDeque x = new HeapAndDeque();
        for (int call = 0; call < CALLS; call += 2) {
            int number = -call;
            due(1, () -> x.offer(number));
            due(number, x::poll);
        }
    }

    /**
     * What it is, "An object is used for at most 512 calls after it has been made; what later
     * calls answer is free.": the 512th call is answered yet, at the queue of pairs.
     */
    static void thePairsAnswerThe512thCall() {
        HeapAndDeque x = new HeapAndDeque();
        for (int call = 0; call < CALLS; call += 2) {
            int key = call;
            due(1, () -> x.offerPair(key, 999));
            due(key * 1000L + 999, x::pollPair);
        }
    }

    /**
     * What it is, "An object is used for at most 512 calls after it has been made; what later
     * calls answer is free.": the 512th call is answered yet, by a row that goes on lastwards.
     */
    static void theRowAnswersThe512thCallGoingLastwards() {
        HeapAndDeque x = new HeapAndDeque();
        for (int call = 0; call < CALLS; call += 2) {
            int number = call;
            due(1, () -> x.addLast(number));
            due(number, x::removeFirst);
        }
    }

    /**
     * What it is, "An object is used for at most 512 calls after it has been made; what later
     * calls answer is free.": the 512th call is answered yet, by a row that goes on firstwards.
     */
    static void theRowAnswersThe512thCallGoingFirstwards() {
        HeapAndDeque x = new HeapAndDeque();
        for (int call = 0; call < CALLS; call += 2) {
            int number = call;
            due(1, () -> x.addFirst(number));
            due(number, x::removeLast);
        }
    }

    // What each of the three holds.

    /** Terms, "Each of the three holds at most 200; none holds anything at first.": 200, queue. */
    static void theQueueHolds200() {
        HeapAndDeque x = withQueue(mixed(LIMIT));
        dueQueue(x, upTo(LIMIT));
    }

    /** Terms, "Each of the three holds at most 200; none holds anything at first.": 201, queue. */
    static void theQueueHoldsNo201() {
        HeapAndDeque x = withFullQueue();
        due(IllegalStateException.class, () -> x.offer(200));
        due(LIMIT, x::size);
        due(false, () -> x.contains(200));
    }

    /** Terms, "Each of the three holds at most 200; none holds anything at first.": 200, pairs. */
    static void thePairsAre200() {
        HeapAndDeque x = withFullPairs();
        due(LIMIT, x::sizePairs);
        for (int i = 0; i < LIMIT; i++) {
            due(i * 1001L, x::pollPair);
        }
    }

    /** Terms, "Each of the three holds at most 200; none holds anything at first.": 201, pairs. */
    static void thePairsAreNo201() {
        HeapAndDeque x = withFullPairs();
        due(IllegalStateException.class, () -> x.offerPair(200, 200));
        due(LIMIT, x::sizePairs);
        due(false, () -> x.containsPair(200, 200));
    }

    /** Terms, "Each of the three holds at most 200; none holds anything at first.": 200, row. */
    static void theRowHolds200() {
        dueRow(withFullRow(), upTo(LIMIT));
    }

    /** Terms, "Each of the three holds at most 200; none holds anything at first.": 201, row. */
    static void theRowHoldsNo201() {
        HeapAndDeque x = withFullRow();
        due(IllegalStateException.class, () -> x.addLast(200));
        due(IllegalStateException.class, () -> x.addFirst(200));
        due(LIMIT, x::length);
        due(false, () -> x.has(200));
    }

    /**
     * Terms, "Each of the three holds at most 200; none holds anything at first.": all three
     * hold 200 at once, so that none counts what another one holds.
     */
    static void allThreeHold200AtOnce() {
        HeapAndDeque x = withFullPairs();
        for (int number = 0; number < LIMIT; number++) {
            x.addLast(number);
        }
        due(LIMIT, x::addAll);
        due(LIMIT, x::size);
        due(LIMIT, x::sizePairs);
        due(LIMIT, x::length);
    }

    /** Terms, "Each of the three holds at most 200; none holds anything at first.": none, queue. */
    static void theQueueHoldsNothingAtFirst() {
        HeapAndDeque x = new HeapAndDeque();
        due(0, x::size);
        due(NoSuchElementException.class, x::peek);
    }

    /** Terms, "Each of the three holds at most 200; none holds anything at first.": none, pairs. */
    static void thePairsAreNoneAtFirst() {
        HeapAndDeque x = new HeapAndDeque();
        due(0, x::sizePairs);
        due(NoSuchElementException.class, x::peekPair);
    }

    /** Terms, "Each of the three holds at most 200; none holds anything at first.": none, row. */
    static void theRowHoldsNothingAtFirst() {
        HeapAndDeque x = new HeapAndDeque();
        due(0, x::length);
        due(NoSuchElementException.class, x::getFirst);
        due(NoSuchElementException.class, x::getLast);
    }

    // Any ints, and like ones.

    /**
     * Terms, "The queue and the row hold whole numbers, any ints; like ones may be there several
     * times, and count each.": the least int, in the queue.
     */
    static void theQueueHoldsTheLeastInt() {
        dueQueue(withQueue(LEAST_INT + 1, LEAST_INT, 0), LEAST_INT, LEAST_INT + 1, 0);
    }

    /**
     * Terms, "The queue and the row hold whole numbers, any ints; like ones may be there several
     * times, and count each.": the greatest int, in the queue.
     */
    static void theQueueHoldsTheGreatestInt() {
        dueQueue(withQueue(GREATEST_INT, GREATEST_INT - 1, 0), 0, GREATEST_INT - 1, GREATEST_INT);
    }

    /**
     * Terms, "The queue and the row hold whole numbers, any ints; like ones may be there several
     * times, and count each.": the least int beside the greatest, whose difference goes round.
     */
    static void theQueueTellsTheLeastIntFromTheGreatest() {
        dueQueue(withQueue(GREATEST_INT, LEAST_INT), LEAST_INT, GREATEST_INT);
        dueQueue(withQueue(LEAST_INT, GREATEST_INT), LEAST_INT, GREATEST_INT);
    }

    /**
     * Terms, "The queue and the row hold whole numbers, any ints; like ones may be there several
     * times, and count each.": the least int, in the row.
     */
    static void theRowHoldsTheLeastInt() {
        dueRow(withRow(0, LEAST_INT, 1), 0, LEAST_INT, 1);
    }

    /**
     * Terms, "The queue and the row hold whole numbers, any ints; like ones may be there several
     * times, and count each.": the greatest int, in the row.
     */
    static void theRowHoldsTheGreatestInt() {
        dueRow(withRow(0, GREATEST_INT, 1), 0, GREATEST_INT, 1);
    }

    /**
     * Terms, "The queue and the row hold whole numbers, any ints; like ones may be there several
     * times, and count each.": the queue is full of like ones.
     */
    static void theQueueCountsEachOf200LikeOnes() {
        HeapAndDeque x = withQueue(like(8, LIMIT));
        due(IllegalStateException.class, () -> x.offer(8));
        dueQueue(x, like(8, LIMIT));
    }

    /**
     * Terms, "The queue and the row hold whole numbers, any ints; like ones may be there several
     * times, and count each.": the row is full of like ones.
     */
    static void theRowCountsEachOf200LikeOnes() {
        HeapAndDeque x = withRow(like(8, LIMIT));
        due(IllegalStateException.class, () -> x.addLast(8));
        dueRow(x, like(8, LIMIT));
    }

    // Pairs.

    /**
     * Terms, "A pair has a key, any int, and a tag, 0 to 999; a pair is less than another one if
     * its key is less, of like keys if its tag is greater; pairs of a like key and a like tag are
     * like ones.": the least int as a key.
     */
    static void aKeyIsTheLeastInt() {
        HeapAndDeque x = withPairs(LEAST_INT, 1);
        due(true, () -> x.containsPair(LEAST_INT, 1));
        due(false, () -> x.containsPair(GREATEST_INT, 1));
    }

    /**
     * Terms, "A pair has a key, any int, and a tag, 0 to 999; a pair is less than another one if
     * its key is less, of like keys if its tag is greater; pairs of a like key and a like tag are
     * like ones.": the greatest int as a key.
     */
    static void aKeyIsTheGreatestInt() {
        HeapAndDeque x = withPairs(GREATEST_INT, 1);
        due(true, () -> x.containsPair(GREATEST_INT, 1));
        due(false, () -> x.containsPair(LEAST_INT, 1));
    }

    /**
     * Terms, "A pair has a key, any int, and a tag, 0 to 999; a pair is less than another one if
     * its key is less, of like keys if its tag is greater; pairs of a like key and a like tag are
     * like ones.": 0, the least tag.
     */
    static void aTagIs0() {
        HeapAndDeque x = new HeapAndDeque();
        due(1, () -> x.offerPair(3, 0));
        duePairs(x, 3000L);
    }

    /**
     * Terms, "A pair has a key, any int, and a tag, 0 to 999; a pair is less than another one if
     * its key is less, of like keys if its tag is greater; pairs of a like key and a like tag are
     * like ones.": 999, the greatest tag.
     */
    static void aTagIs999() {
        HeapAndDeque x = new HeapAndDeque();
        due(1, () -> x.offerPair(3, 999));
        duePairs(x, 3999L);
    }

    /**
     * Terms, "A pair has a key, any int, and a tag, 0 to 999; a pair is less than another one if
     * its key is less, of like keys if its tag is greater; pairs of a like key and a like tag are
     * like ones.": -1, a tag too small.
     */
    static void noTagIsBelow0() {
        HeapAndDeque x = new HeapAndDeque();
        due(IllegalArgumentException.class, () -> x.offerPair(3, -1));
        duePairs(x);
    }

    /**
     * Terms, "A pair has a key, any int, and a tag, 0 to 999; a pair is less than another one if
     * its key is less, of like keys if its tag is greater; pairs of a like key and a like tag are
     * like ones.": 1000, a tag too large.
     */
    static void noTagIsAbove999() {
        HeapAndDeque x = new HeapAndDeque();
        due(IllegalArgumentException.class, () -> x.offerPair(3, 1000));
        duePairs(x);
    }

    /**
     * Terms, "A pair has a key, any int, and a tag, 0 to 999; a pair is less than another one if
     * its key is less, of like keys if its tag is greater; pairs of a like key and a like tag are
     * like ones.": the least key against the greatest one, whose difference goes round.
     */
    static void theLeastKeyIsLessThanTheGreatest() {
        HeapAndDeque x = withPairs(GREATEST_INT, 5, LEAST_INT, 5);
        duePairs(x, -2147483647995L, 2147483647005L);
    }

    /**
     * Terms, "A pair has a key, any int, and a tag, 0 to 999; a pair is less than another one if
     * its key is less, of like keys if its tag is greater; pairs of a like key and a like tag are
     * like ones.": a key less by 1, with tags at their ends that would have it the other way.
     */
    static void aKeyLessBy1OutweighsTheTags() {
        duePairs(withPairs(2, 999, 1, 0), 1000L, 2999L);
        duePairs(withPairs(1, 0, 2, 999), 1000L, 2999L);
    }

    /**
     * Terms, "A pair has a key, any int, and a tag, 0 to 999; a pair is less than another one if
     * its key is less, of like keys if its tag is greater; pairs of a like key and a like tag are
     * like ones.": keys on both sides of 0, with tags at their ends.
     */
    static void keysBelow0AreLess() {
        duePairs(withPairs(0, 999, -1, 0, 0, 0, -1, 999), -1L, -1000L, 999L, 0L);
    }

    /**
     * Terms, "A pair has a key, any int, and a tag, 0 to 999; a pair is less than another one if
     * its key is less, of like keys if its tag is greater; pairs of a like key and a like tag are
     * like ones.": of like keys the tag 999 against 0.
     */
    static void ofLikeKeysTheTag999IsLessThan0() {
        duePairs(withPairs(4, 0, 4, 999), 4999L, 4000L);
        duePairs(withPairs(4, 999, 4, 0), 4999L, 4000L);
    }

    /**
     * Terms, "A pair has a key, any int, and a tag, 0 to 999; a pair is less than another one if
     * its key is less, of like keys if its tag is greater; pairs of a like key and a like tag are
     * like ones.": of like keys tags that differ by 1 at either end of their range.
     */
    static void ofLikeKeysATagGreaterBy1IsLess() {
        duePairs(withPairs(4, 0, 4, 998, 4, 999, 4, 1), 4999L, 4998L, 4001L, 4000L);
    }

    /**
     * Terms, "A pair has a key, any int, and a tag, 0 to 999; a pair is less than another one if
     * its key is less, of like keys if its tag is greater; pairs of a like key and a like tag are
     * like ones.": of the least key twice, the greater tag is less.
     */
    static void ofTheLeastKeyTheGreaterTagIsLess() {
        duePairs(withPairs(LEAST_INT, 0, LEAST_INT, 999), -2147483647001L, -2147483648000L);
    }

    /**
     * Terms, "A pair has a key, any int, and a tag, 0 to 999; a pair is less than another one if
     * its key is less, of like keys if its tag is greater; pairs of a like key and a like tag are
     * like ones.": of the greatest key twice, the greater tag is less.
     */
    static void ofTheGreatestKeyTheGreaterTagIsLess() {
        duePairs(withPairs(GREATEST_INT, 0, GREATEST_INT, 999), 2147483647999L, 2147483647000L);
    }

    /**
     * Terms, "A pair has a key, any int, and a tag, 0 to 999; a pair is less than another one if
     * its key is less, of like keys if its tag is greater; pairs of a like key and a like tag are
     * like ones.": the queue of pairs is full of like ones.
     */
    static void the200LikePairsCountEach() {
        HeapAndDeque x = withPairs(like(7, 2 * LIMIT));
        due(IllegalStateException.class, () -> x.offerPair(7, 7));
        due(LIMIT, x::sizePairs);
        for (int i = 0; i < LIMIT; i++) {
            due(7007L, x::pollPair);
        }
    }

    /**
     * Terms, "A pair has a key, any int, and a tag, 0 to 999; a pair is less than another one if
     * its key is less, of like keys if its tag is greater; pairs of a like key and a like tag are
     * like ones.": pairs whose tags differ by 1 are not like.
     */
    static void pairsOfUnlikeTagsAreNotLike() {
        HeapAndDeque x = withPairs(1, 4, 1, 6);
        due(false, () -> x.containsPair(1, 5));
        due(false, () -> x.removePair(1, 5));
    }

    /**
     * Terms, "A pair has a key, any int, and a tag, 0 to 999; a pair is less than another one if
     * its key is less, of like keys if its tag is greater; pairs of a like key and a like tag are
     * like ones.": pairs whose keys differ by 1 are not like.
     */
    static void pairsOfUnlikeKeysAreNotLike() {
        HeapAndDeque x = withPairs(0, 5, 2, 5);
        due(false, () -> x.containsPair(1, 5));
        due(false, () -> x.removePair(1, 5));
    }

    // The row's ends and places.

    /**
     * Terms, "The row has a first and a last end; its numbers stand from the first one to the
     * last one, with places from 0.": a row of one, whose number stands at both ends.
     */
    static void oneNumberStandsAtBothEnds() {
        HeapAndDeque x = withRow(5);
        due(5, x::getFirst);
        due(5, x::getLast);
        due(5, () -> x.at(0));
    }

    /**
     * Terms, "The row has a first and a last end; its numbers stand from the first one to the
     * last one, with places from 0.": 0 is the place of the first one.
     */
    static void theFirstPlaceIs0() {
        HeapAndDeque x = withRow(5, 6, 7);
        due(5, () -> x.at(0));
        due(IndexOutOfBoundsException.class, () -> x.at(-1));
    }

    /**
     * Terms, "The row has a first and a last end; its numbers stand from the first one to the
     * last one, with places from 0.": 199 is the last place of a full row.
     */
    static void theLastPlaceOfAFullRowIs199() {
        HeapAndDeque x = withFullRow();
        due(199, () -> x.at(199));
        due(IndexOutOfBoundsException.class, () -> x.at(200));
    }

    /**
     * Terms, "The row has a first and a last end; its numbers stand from the first one to the
     * last one, with places from 0.": a row filled from both ends, first and last in turn.
     */
    static void aRowFilledFromBothEndsStandsInOrder() {
        HeapAndDeque x = new HeapAndDeque();
        for (int i = 0; i < LIMIT / 2; i++) {
            x.addFirst(LIMIT / 2 - 1 - i);
            x.addLast(LIMIT / 2 + i);
        }
        dueRow(x, upTo(LIMIT));
    }

    /**
     * Terms, "The row has a first and a last end; its numbers stand from the first one to the
     * last one, with places from 0.": a full row behind 100 that were taken out at its first end.
     */
    static void aRowThatMovedLastwardsStandsInOrder() {
        HeapAndDeque x = withRow(like(-1, 100));
        for (int number = 0; number < LIMIT; number++) {
            if (number < 100) {
                x.removeFirst();
            }
            x.addLast(number);
        }
        due(LIMIT, x::length);
        for (int i = 0; i < LIMIT; i += 3) {
            int place = i;
            due(place, () -> x.at(place));
        }
        due(199, x::getLast);
    }

    /**
     * Terms, "The row has a first and a last end; its numbers stand from the first one to the
     * last one, with places from 0.": a full row ahead of 100 that were taken out at its last end.
     */
    static void aRowThatMovedFirstwardsStandsInOrder() {
        HeapAndDeque x = withRow(like(-1, 100));
        for (int number = LIMIT - 1; number >= 0; number--) {
            if (number >= 100) {
                x.removeLast();
            }
            x.addFirst(number);
        }
        due(LIMIT, x::length);
        for (int i = 0; i < LIMIT; i += 3) {
            int place = i;
            due(place, () -> x.at(place));
        }
        due(199, x::getLast);
    }

    // How a pair is told.

    /**
     * Terms, "A pair is told as its key times 1000, and its tag more, as a long.": the least key
     * with the least tag, the least that is told.
     */
    static void theLeastKeyWithTag0IsTold() {
        duePairs(withPairs(LEAST_INT, 0), -2147483648000L);
    }

    /**
     * Terms, "A pair is told as its key times 1000, and its tag more, as a long.": the least key
     * with the greatest tag.
     */
    static void theLeastKeyWithTag999IsTold() {
        duePairs(withPairs(LEAST_INT, 999), -2147483647001L);
    }

    /**
     * Terms, "A pair is told as its key times 1000, and its tag more, as a long.": the greatest
     * key with the least tag.
     */
    static void theGreatestKeyWithTag0IsTold() {
        duePairs(withPairs(GREATEST_INT, 0), 2147483647000L);
    }

    /**
     * Terms, "A pair is told as its key times 1000, and its tag more, as a long.": the greatest
     * key with the greatest tag, the greatest that is told.
     */
    static void theGreatestKeyWithTag999IsTold() {
        duePairs(withPairs(GREATEST_INT, 999), 2147483647999L);
    }

    /**
     * Terms, "A pair is told as its key times 1000, and its tag more, as a long.": the least key
     * above 0 that times 1000 is too large for an int.
     */
    static void aKeyTimes1000AboveAllIntsIsTold() {
        duePairs(withPairs(2147484, 0), 2147484000L);
    }

    /**
     * Terms, "A pair is told as its key times 1000, and its tag more, as a long.": the greatest
     * key below 0 that times 1000 is too small for an int.
     */
    static void aKeyTimes1000BelowAllIntsIsTold() {
        duePairs(withPairs(-2147484, 0), -2147484000L);
    }

    /**
     * Terms, "A pair is told as its key times 1000, and its tag more, as a long.": a key below
     * 0, whose tag goes towards 0 and not away from it.
     */
    static void aKeyBelow0IsToldWithItsTagMore() {
        duePairs(withPairs(-1, 0, -1, 1, -1, 999), -1L, -999L, -1000L);
    }

    /** Terms, "A pair is told as its key times 1000, and its tag more, as a long.": 0 with 0. */
    static void theKey0WithTag0IsTold() {
        duePairs(withPairs(0, 0), 0L);
    }

    // A refused call changes nothing.

    /** The queue is full; the others hold some. */
    private static HeapAndDeque fullQueueAndMore() {
        HeapAndDeque x = withFullQueue();
        putSomePairs(x);
        putSomeIntoTheRow(x);
        return x;
    }

    /** The queue of pairs is full; the others hold some. */
    private static HeapAndDeque fullPairsAndMore() {
        HeapAndDeque x = withFullPairs();
        putSomeIntoTheQueue(x);
        putSomeIntoTheRow(x);
        return x;
    }

    /** The row is full; the others hold some. */
    private static HeapAndDeque fullRowAndMore() {
        HeapAndDeque x = withFullRow();
        putSomeIntoTheQueue(x);
        putSomePairs(x);
        return x;
    }

    /** The queue holds 100 and the row 101, one too many for both of them in one. */
    private static HeapAndDeque hundredQueuedAndMoreInTheRow() {
        HeapAndDeque x = withQueue(mixed(100));
        for (int number : mixed(101)) {
            x.addLast(number);
        }
        putSomePairs(x);
        return x;
    }

    /** There are 100 pairs and 101 in the row, one too many for both of them in one. */
    private static HeapAndDeque hundredPairsAndMoreInTheRow() {
        HeapAndDeque x = withPairs(twice(mixed(100)));
        for (int number : mixed(101)) {
            x.addLast(number);
        }
        putSomeIntoTheQueue(x);
        return x;
    }

    private static HeapAndDeque noneInTheQueue() {
        HeapAndDeque x = new HeapAndDeque();
        putSomePairs(x);
        putSomeIntoTheRow(x);
        return x;
    }

    private static HeapAndDeque noPairs() {
        HeapAndDeque x = new HeapAndDeque();
        putSomeIntoTheQueue(x);
        putSomeIntoTheRow(x);
        return x;
    }

    private static HeapAndDeque noneInTheRow() {
        HeapAndDeque x = new HeapAndDeque();
        putSomeIntoTheQueue(x);
        putSomePairs(x);
        return x;
    }

    private static HeapAndDeque someInAll() {
        HeapAndDeque x = noneInTheRow();
        putSomeIntoTheRow(x);
        return x;
    }

    private static void putSomeIntoTheQueue(HeapAndDeque x) {
        x.offer(5);
        x.offer(-3);
        x.offer(5);
    }

    private static void putSomePairs(HeapAndDeque x) {
        x.offerPair(1, 5);
        x.offerPair(1, 7);
        x.offerPair(-2, 0);
    }

    private static void putSomeIntoTheRow(HeapAndDeque x) {
        x.addLast(4);
        x.addLast(9);
        x.addLast(4);
    }

    /** Terms, "A method that throws an exception changes nothing.": offer, the queue full. */
    static void refusedOfferChangesNothing() {
        dueNoChange(IllegalStateException.class, TermsBoundaryTest::fullQueueAndMore,
                x -> x.offer(-1));
    }

    /** Terms, "A method that throws an exception changes nothing.": add, the queue full. */
    static void refusedAddChangesNothing() {
        dueNoChange(IllegalStateException.class, TermsBoundaryTest::fullQueueAndMore,
                x -> x.add(-1));
    }

    /** Terms, "A method that throws an exception changes nothing.": peek, the queue empty. */
    static void refusedPeekChangesNothing() {
        dueNoChange(NoSuchElementException.class, TermsBoundaryTest::noneInTheQueue,
                HeapAndDeque::peek);
    }

    /** Terms, "A method that throws an exception changes nothing.": poll, the queue empty. */
    static void refusedPollChangesNothing() {
        dueNoChange(NoSuchElementException.class, TermsBoundaryTest::noneInTheQueue,
                HeapAndDeque::poll);
    }

    /** Terms, "A method that throws an exception changes nothing.": addAll, one too many. */
    static void refusedAddAllChangesNothing() {
        dueNoChange(IllegalStateException.class,
                TermsBoundaryTest::hundredQueuedAndMoreInTheRow, HeapAndDeque::addAll);
    }

    /** Terms, "A method that throws an exception changes nothing.": drain, one too many. */
    static void refusedDrainChangesNothing() {
        dueNoChange(IllegalStateException.class,
                TermsBoundaryTest::hundredQueuedAndMoreInTheRow, HeapAndDeque::drain);
    }

    /** Terms, "A method that throws an exception changes nothing.": offerPair, tag too small. */
    static void offerPairRefusedForATooSmallTagChangesNothing() {
        dueNoChange(IllegalArgumentException.class, TermsBoundaryTest::someInAll,
                x -> x.offerPair(1, -1));
    }

    /** Terms, "A method that throws an exception changes nothing.": offerPair, tag too large. */
    static void offerPairRefusedForATooLargeTagChangesNothing() {
        dueNoChange(IllegalArgumentException.class, TermsBoundaryTest::someInAll,
                x -> x.offerPair(1, 1000));
    }

    /** Terms, "A method that throws an exception changes nothing.": offerPair, full. */
    static void offerPairRefusedByFullPairsChangesNothing() {
        dueNoChange(IllegalStateException.class, TermsBoundaryTest::fullPairsAndMore,
                x -> x.offerPair(-1, 5));
    }

    /** Terms, "A method that throws an exception changes nothing.": peekPair, no pairs. */
    static void refusedPeekPairChangesNothing() {
        dueNoChange(NoSuchElementException.class, TermsBoundaryTest::noPairs,
                HeapAndDeque::peekPair);
    }

    /** Terms, "A method that throws an exception changes nothing.": pollPair, no pairs. */
    static void refusedPollPairChangesNothing() {
        dueNoChange(NoSuchElementException.class, TermsBoundaryTest::noPairs,
                HeapAndDeque::pollPair);
    }

    /**
     * Terms, "A method that throws an exception changes nothing.": removePair, tag too small,
     * which told as a long would be a pair that is there.
     */
    static void removePairRefusedForATooSmallTagChangesNothing() {
        dueNoChange(IllegalArgumentException.class, TermsBoundaryTest::someInAll,
                x -> x.removePair(2, -995));
    }

    /**
     * Terms, "A method that throws an exception changes nothing.": removePair, tag too large,
     * which told as a long would be a pair that is there.
     */
    static void removePairRefusedForATooLargeTagChangesNothing() {
        dueNoChange(IllegalArgumentException.class, TermsBoundaryTest::someInAll,
                x -> x.removePair(0, 1005));
    }

    /** Terms, "A method that throws an exception changes nothing.": containsPair, too small. */
    static void containsPairRefusedForATooSmallTagChangesNothing() {
        dueNoChange(IllegalArgumentException.class, TermsBoundaryTest::someInAll,
                x -> x.containsPair(1, -1));
    }

    /** Terms, "A method that throws an exception changes nothing.": containsPair, too large. */
    static void containsPairRefusedForATooLargeTagChangesNothing() {
        dueNoChange(IllegalArgumentException.class, TermsBoundaryTest::someInAll,
                x -> x.containsPair(1, 1000));
    }

    /** Terms, "A method that throws an exception changes nothing.": drainPairs, one too many. */
    static void refusedDrainPairsChangesNothing() {
        dueNoChange(IllegalStateException.class,
                TermsBoundaryTest::hundredPairsAndMoreInTheRow, HeapAndDeque::drainPairs);
    }

    /** Terms, "A method that throws an exception changes nothing.": addFirst, the row full. */
    static void refusedAddFirstChangesNothing() {
        dueNoChange(IllegalStateException.class, TermsBoundaryTest::fullRowAndMore,
                x -> x.addFirst(-1));
    }

    /** Terms, "A method that throws an exception changes nothing.": addLast, the row full. */
    static void refusedAddLastChangesNothing() {
        dueNoChange(IllegalStateException.class, TermsBoundaryTest::fullRowAndMore,
                x -> x.addLast(-1));
    }

    /** Terms, "A method that throws an exception changes nothing.": getFirst, the row empty. */
    static void refusedGetFirstChangesNothing() {
        dueNoChange(NoSuchElementException.class, TermsBoundaryTest::noneInTheRow,
                HeapAndDeque::getFirst);
    }

    /** Terms, "A method that throws an exception changes nothing.": getLast, the row empty. */
    static void refusedGetLastChangesNothing() {
        dueNoChange(NoSuchElementException.class, TermsBoundaryTest::noneInTheRow,
                HeapAndDeque::getLast);
    }

    /** Terms, "A method that throws an exception changes nothing.": removeFirst, empty. */
    static void refusedRemoveFirstChangesNothing() {
        dueNoChange(NoSuchElementException.class, TermsBoundaryTest::noneInTheRow,
                HeapAndDeque::removeFirst);
    }

    /** Terms, "A method that throws an exception changes nothing.": removeLast, empty. */
    static void refusedRemoveLastChangesNothing() {
        dueNoChange(NoSuchElementException.class, TermsBoundaryTest::noneInTheRow,
                HeapAndDeque::removeLast);
    }

    /** Terms, "A method that throws an exception changes nothing.": push, the row full. */
    static void refusedPushChangesNothing() {
        dueNoChange(IllegalStateException.class, TermsBoundaryTest::fullRowAndMore,
                x -> x.push(-1));
    }

    /** Terms, "A method that throws an exception changes nothing.": pop, the row empty. */
    static void refusedPopChangesNothing() {
        dueNoChange(NoSuchElementException.class, TermsBoundaryTest::noneInTheRow,
                HeapAndDeque::pop);
    }

    /** Terms, "A method that throws an exception changes nothing.": at, place too small. */
    static void atRefusedForATooSmallPlaceChangesNothing() {
        dueNoChange(IndexOutOfBoundsException.class, TermsBoundaryTest::someInAll,
                x -> x.at(-1));
    }

    /** Terms, "A method that throws an exception changes nothing.": at, place too large. */
    static void atRefusedForATooLargePlaceChangesNothing() {
        dueNoChange(IndexOutOfBoundsException.class, TermsBoundaryTest::someInAll,
                x -> x.at(3));
    }

    /** Terms, "A method that throws an exception changes nothing.": back, place too small. */
    static void backRefusedForATooSmallPlaceChangesNothing() {
        dueNoChange(IndexOutOfBoundsException.class, TermsBoundaryTest::someInAll,
                x -> x.back(-1));
    }

    /** Terms, "A method that throws an exception changes nothing.": back, place too large. */
    static void backRefusedForATooLargePlaceChangesNothing() {
        dueNoChange(IndexOutOfBoundsException.class, TermsBoundaryTest::someInAll,
                x -> x.back(3));
    }

    // Several exceptions.

    /**
     * Terms, "If several exceptions apply, the one that is documented first is thrown.":
     * offerPair with a tag too small, and full.
     */
    static void aTooSmallTagIsToldAheadOfFullPairs() {
        HeapAndDeque x = withFullPairs();
        due(IllegalArgumentException.class, () -> x.offerPair(0, -1));
    }

    /**
     * Terms, "If several exceptions apply, the one that is documented first is thrown.":
     * offerPair with a tag too large, and full.
     */
    static void aTooLargeTagIsToldAheadOfFullPairs() {
        HeapAndDeque x = withFullPairs();
        due(IllegalArgumentException.class, () -> x.offerPair(0, 1000));
    }

    public static void main(String[] args) {
        runTestsOf(TermsBoundaryTest.class);
    }
}
