import java.util.NoSuchElementException;

/** A test for each boundary case that a sentence of the promises 12 to 19 names: the pairs. */
public final class PairsBoundaryTest extends DueAnswers {
    /** Room for one more: 0 with the tag 0, 1 with 1 .. 198 with 198. */
    private static HeapAndDeque with199Pairs() {
        return withPairs(twice(mixed(199)));
    }

    /** The pairs from the given number's own up to 199's. */
    private static void duePairsFrom(int first, HeapAndDeque x) {
        due(LIMIT - first, x::sizePairs);
        for (int i = first; i < LIMIT; i++) {
            due(i * 1001L, x::pollPair);
        }
    }

    // Promise 12: offerPair.

    /** Promise 12, "Puts a pair into the queue of pairs.": into an empty one. */
    static void offerPairPutsIntoNone() {
        HeapAndDeque x = new HeapAndDeque();
        x.offerPair(6, 7);
        duePairs(x, 6007L);
    }

    /** Promise 12, "Puts a pair into the queue of pairs.": into the last room, ahead. */
    static void offerPairPutsALeastPairIntoTheLastRoom() {
        HeapAndDeque x = with199Pairs();
        x.offerPair(0, 1);
        due(1L, x::pollPair);
        due(0L, x::pollPair);
        due(198, x::sizePairs);
    }

    /** Promise 12, "Puts a pair into the queue of pairs.": into the last room, behind. */
    static void offerPairPutsAGreatestPairIntoTheLastRoom() {
        HeapAndDeque x = with199Pairs();
        x.offerPair(199, 199);
        duePairsFrom(0, x);
    }

    /** Promise 12, "`key`: any number": the least int. */
    static void offerPairTakesTheLeastKey() {
        HeapAndDeque x = withPairs(0, 0);
        due(2, () -> x.offerPair(LEAST_INT, 5));
        duePairs(x, -2147483647995L, 0L);
    }

    /** Promise 12, "`key`: any number": the greatest int. */
    static void offerPairTakesTheGreatestKey() {
        HeapAndDeque x = withPairs(0, 0);
        due(2, () -> x.offerPair(GREATEST_INT, 5));
        duePairs(x, 0L, 2147483647005L);
    }

    /** Promise 12, "`tag`: 0 to 999": 0. */
    static void offerPairTakesTheTag0() {
        HeapAndDeque x = new HeapAndDeque();
        due(1, () -> x.offerPair(6, 0));
        duePairs(x, 6000L);
    }

    /** Promise 12, "`tag`: 0 to 999": 999. */
    static void offerPairTakesTheTag999() {
        HeapAndDeque x = new HeapAndDeque();
        due(1, () -> x.offerPair(6, 999));
        duePairs(x, 6999L);
    }

    /** Promise 12, "Returns how many it holds then.": the first one. */
    static void offerPairAnswers1ForTheFirst() {
        HeapAndDeque x = new HeapAndDeque();
        due(1, () -> x.offerPair(6, 7));
    }

    /** Promise 12, "Returns how many it holds then.": the last one that it has room for. */
    static void offerPairAnswers200ForTheLast() {
        HeapAndDeque x = with199Pairs();
        due(200, () -> x.offerPair(6, 7));
    }

    /** Promise 12, "Throws `IllegalArgumentException` if the tag is out of range": below by 1. */
    static void offerPairRefusesTheTagMinus1() {
        HeapAndDeque x = new HeapAndDeque();
        due(IllegalArgumentException.class, () -> x.offerPair(6, -1));
    }

    /** Promise 12, "Throws `IllegalArgumentException` if the tag is out of range": above by 1. */
    static void offerPairRefusesTheTag1000() {
        HeapAndDeque x = new HeapAndDeque();
        due(IllegalArgumentException.class, () -> x.offerPair(6, 1000));
    }

    /** Promise 12, "Throws `IllegalArgumentException` if the tag is out of range": far below. */
    static void offerPairRefusesTheLeastIntAsATag() {
        HeapAndDeque x = new HeapAndDeque();
        due(IllegalArgumentException.class, () -> x.offerPair(6, LEAST_INT));
    }

    /** Promise 12, "Throws `IllegalArgumentException` if the tag is out of range": far above. */
    static void offerPairRefusesTheGreatestIntAsATag() {
        HeapAndDeque x = new HeapAndDeque();
        due(IllegalArgumentException.class, () -> x.offerPair(6, GREATEST_INT));
    }

    /** Promise 12, "Throws `IllegalStateException` if it holds 200": it holds 200. */
    static void offerPairIntoFullPairsIsRefused() {
        HeapAndDeque x = withFullPairs();
        due(IllegalStateException.class, () -> x.offerPair(6, 7));
    }

    /** Promise 12, "Throws `IllegalStateException` if it holds 200": 200, the tag 0. */
    static void offerPairOfTheTag0IntoFullPairsIsRefused() {
        HeapAndDeque x = withFullPairs();
        due(IllegalStateException.class, () -> x.offerPair(6, 0));
    }

    /** Promise 12, "Throws `IllegalStateException` if it holds 200": 200, the tag 999. */
    static void offerPairOfTheTag999IntoFullPairsIsRefused() {
        HeapAndDeque x = withFullPairs();
        due(IllegalStateException.class, () -> x.offerPair(6, 999));
    }

    /** Promise 12, "Throws `IllegalStateException` if it holds 200": it holds 199. */
    static void offerPairIntoTheLastRoomIsNotRefused() {
        HeapAndDeque x = with199Pairs();
        due(200, () -> x.offerPair(199, 199));
        due(IllegalStateException.class, () -> x.offerPair(200, 200));
    }

    /**
     * Promise 12, "Throws `IllegalStateException` if it holds 200": no longer when one is taken
     * of 200, and again when it holds 200 again.
     */
    static void offerPairIsRefusedAgainWhenFullAgain() {
        HeapAndDeque x = withFullPairs();
        due(IllegalStateException.class, () -> x.offerPair(6, 7));
        x.pollPair();
        due(200, () -> x.offerPair(6, 7));
        due(IllegalStateException.class, () -> x.offerPair(6, 7));
    }

    /** Promise 12, "Throws `IllegalStateException` if it holds 200": the others hold 200. */
    static void offerPairIsNotRefusedForTheOthersBeingFull() {
        HeapAndDeque x = withFullRow();
        x.addAll();
        due(1, () -> x.offerPair(6, 7));
    }

    // Promise 13: peekPair.

    /** Promise 13, "Returns a least pair, which stays.": of one pair. */
    static void peekPairTellsTheOnlyPair() {
        HeapAndDeque x = withPairs(6, 7);
        due(6007L, x::peekPair);
    }

    /** Promise 13, "Returns a least pair, which stays.": of 200. */
    static void peekPairTellsTheLeastOfFullPairs() {
        HeapAndDeque x = withFullPairs();
        due(0L, x::peekPair);
    }

    /** Promise 13, "Returns a least pair, which stays.": of several like ones. */
    static void peekPairTellsOneOfSeveralLeast() {
        HeapAndDeque x = withPairs(6, 7, 8, 9, 6, 7);
        due(6007L, x::peekPair);
    }

    /** Promise 13, "Returns a least pair, which stays.": of like keys with the ends of the tags. */
    static void peekPairTellsTheGreatestTagOfALikeKey() {
        HeapAndDeque x = withPairs(6, 0, 6, 999, 6, 500);
        due(6999L, x::peekPair);
    }

    /** Promise 13, "Returns a least pair, which stays.": the only one stays. */
    static void peekPairLeavesTheOnlyPair() {
        HeapAndDeque x = withPairs(6, 7);
        x.peekPair();
        duePairs(x, 6007L);
    }

    /** Promise 13, "Returns a least pair, which stays.": all 200 stay. */
    static void peekPairLeavesFullPairs() {
        HeapAndDeque x = withFullPairs();
        x.peekPair();
        duePairsFrom(0, x);
    }

    /** Promise 13, "Returns the pair, told as a long.": the least key with the least tag. */
    static void peekPairTellsTheLeastKeyAndTag() {
        HeapAndDeque x = withPairs(LEAST_INT, 0, 0, 0);
        due(-2147483648000L, x::peekPair);
    }

    /** Promise 13, "Returns the pair, told as a long.": the greatest key with the greatest tag. */
    static void peekPairTellsTheGreatestKeyAndTag() {
        HeapAndDeque x = withPairs(GREATEST_INT, 0, GREATEST_INT, 999);
        due(2147483647999L, x::peekPair);
    }

    /** Promise 13, "Throws `NoSuchElementException` if the queue of pairs holds none": new. */
    static void peekPairIsRefusedByANewObject() {
        HeapAndDeque x = new HeapAndDeque();
        due(NoSuchElementException.class, x::peekPair);
    }

    /** Promise 13, "Throws `NoSuchElementException` if the queue of pairs holds none": polled. */
    static void peekPairIsRefusedWhenTheLastIsPolled() {
        HeapAndDeque x = withPairs(6, 7);
        x.pollPair();
        due(NoSuchElementException.class, x::peekPair);
    }

    /** Promise 13, "Throws `NoSuchElementException` if the queue of pairs holds none": removed. */
    static void peekPairIsRefusedWhenTheLastIsRemoved() {
        HeapAndDeque x = withPairs(6, 7);
        x.removePair(6, 7);
        due(NoSuchElementException.class, x::peekPair);
    }

    /** Promise 13, "Throws `NoSuchElementException` if the queue of pairs holds none": cleared. */
    static void peekPairIsRefusedWhenFullPairsAreCleared() {
        HeapAndDeque x = withFullPairs();
        x.clearPairs();
        due(NoSuchElementException.class, x::peekPair);
    }

    /** Promise 13, "Throws `NoSuchElementException` if the queue of pairs holds none": drained. */
    static void peekPairIsRefusedWhenFullPairsAreDrained() {
        HeapAndDeque x = withFullPairs();
        x.drainPairs();
        due(NoSuchElementException.class, x::peekPair);
    }

    /** Promise 13, "Throws `NoSuchElementException` if the queue of pairs holds none": others. */
    static void peekPairIsRefusedWhileOnlyTheOthersHold() {
        HeapAndDeque x = withQueue(1);
        x.addLast(1);
        due(NoSuchElementException.class, x::peekPair);
    }

    // Promise 14: pollPair.

    /** Promise 14, "Takes a least pair out.": the only one. */
    static void pollPairTakesTheOnlyPair() {
        HeapAndDeque x = withPairs(6, 7);
        due(6007L, x::pollPair);
        due(0, x::sizePairs);
    }

    /** Promise 14, "Takes a least pair out.": out of 200, till there is none. */
    static void pollPairTakesFullPairsInOrder() {
        HeapAndDeque x = withFullPairs();
        for (int i = 0; i < LIMIT; i++) {
            due(i * 1001L, x::pollPair);
        }
        due(0, x::sizePairs);
    }

    /** Promise 14, "Takes a least pair out.": 200 of a like key, the greatest tag first. */
    static void pollPairTakesFullPairsOfALikeKeyInOrder() {
        HeapAndDeque x = new HeapAndDeque();
        for (int tag : mixed(LIMIT)) {
            x.offerPair(-5, tag);
        }
        for (int tag = LIMIT - 1; tag >= 0; tag--) {
            due(-5000L + tag, x::pollPair);
        }
        due(0, x::sizePairs);
    }

    /** Promise 14, "Takes a least pair out.": one of several like ones. */
    static void pollPairTakesOneOfSeveralLeast() {
        HeapAndDeque x = withPairs(6, 7, 8, 9, 6, 7);
        due(6007L, x::pollPair);
        duePairs(x, 6007L, 8009L);
    }

    /** Promise 14, "Returns the pair, told as a long.": the least key with the least tag. */
    static void pollPairTellsTheLeastKeyAndTag() {
        HeapAndDeque x = withPairs(LEAST_INT, 0, 0, 0);
        due(-2147483648000L, x::pollPair);
    }

    /** Promise 14, "Returns the pair, told as a long.": the greatest key with the greatest tag. */
    static void pollPairTellsTheGreatestKeyAndTag() {
        HeapAndDeque x = withPairs(GREATEST_INT, 0, GREATEST_INT, 999);
        due(2147483647999L, x::pollPair);
    }

    /** Promise 14, "Throws `NoSuchElementException` if the queue of pairs holds none": new. */
    static void pollPairIsRefusedByANewObject() {
        HeapAndDeque x = new HeapAndDeque();
        due(NoSuchElementException.class, x::pollPair);
    }

    /** Promise 14, "Throws `NoSuchElementException` if the queue of pairs holds none": polled. */
    static void pollPairIsRefusedWhenTheLastIsPolled() {
        HeapAndDeque x = withPairs(6, 7);
        x.pollPair();
        due(NoSuchElementException.class, x::pollPair);
    }

    /** Promise 14, "Throws `NoSuchElementException` if the queue of pairs holds none": removed. */
    static void pollPairIsRefusedWhenTheLastIsRemoved() {
        HeapAndDeque x = withPairs(6, 7);
        x.removePair(6, 7);
        due(NoSuchElementException.class, x::pollPair);
    }

    /** Promise 14, "Throws `NoSuchElementException` if the queue of pairs holds none": cleared. */
    static void pollPairIsRefusedWhenFullPairsAreCleared() {
        HeapAndDeque x = withFullPairs();
        x.clearPairs();
        due(NoSuchElementException.class, x::pollPair);
    }

    /** Promise 14, "Throws `NoSuchElementException` if the queue of pairs holds none": drained. */
    static void pollPairIsRefusedWhenFullPairsAreDrained() {
        HeapAndDeque x = withFullPairs();
        x.drainPairs();
        due(NoSuchElementException.class, x::pollPair);
    }

    /** Promise 14, "Throws `NoSuchElementException` if the queue of pairs holds none": others. */
    static void pollPairIsRefusedWhileOnlyTheOthersHold() {
        HeapAndDeque x = withQueue(1);
        x.addLast(1);
        due(NoSuchElementException.class, x::pollPair);
    }

    // Promise 15: removePair.

    /** Promise 15, "Takes one of the pairs that are like a pair out.": only one of several. */
    static void removePairTakesOneOfSeveralLikeOnes() {
        HeapAndDeque x = withPairs(6, 7, 1, 1, 6, 7, 6, 7);
        x.removePair(6, 7);
        duePairs(x, 1001L, 6007L, 6007L);
    }

    /** Promise 15, "Takes one of the pairs that are like a pair out.": the only pair there is. */
    static void removePairTakesTheOnlyPair() {
        HeapAndDeque x = withPairs(6, 7);
        x.removePair(6, 7);
        duePairs(x);
    }

    /** Promise 15, "Takes one of the pairs that are like a pair out.": the least of 200. */
    static void removePairTakesTheLeastOfFullPairs() {
        HeapAndDeque x = withFullPairs();
        x.removePair(0, 0);
        duePairsFrom(1, x);
    }

    /** Promise 15, "Takes one of the pairs that are like a pair out.": the greatest of 200. */
    static void removePairTakesTheGreatestOfFullPairs() {
        HeapAndDeque x = withFullPairs();
        x.removePair(199, 199);
        due(199, x::sizePairs);
        due(false, () -> x.containsPair(199, 199));
        due(true, () -> x.containsPair(198, 198));
        due(200, () -> x.offerPair(0, 0));
    }

    /** Promise 15, "Takes one of the pairs that are like a pair out.": none is, and 200 stay. */
    static void removePairTakesNothingThatIsNotLike() {
        HeapAndDeque x = withFullPairs();
        x.removePair(199, 198);
        duePairsFrom(0, x);
    }

    /** Promise 15, "`key`: any number": the least int. */
    static void removePairTakesTheLeastKey() {
        HeapAndDeque x = withPairs(LEAST_INT, 5, GREATEST_INT, 5);
        due(true, () -> x.removePair(LEAST_INT, 5));
        duePairs(x, 2147483647005L);
    }

    /** Promise 15, "`key`: any number": the greatest int. */
    static void removePairTakesTheGreatestKey() {
        HeapAndDeque x = withPairs(LEAST_INT, 5, GREATEST_INT, 5);
        due(true, () -> x.removePair(GREATEST_INT, 5));
        duePairs(x, -2147483647995L);
    }

    /** Promise 15, "`tag`: 0 to 999": 0. */
    static void removePairTakesTheTag0() {
        HeapAndDeque x = withPairs(6, 0, 6, 999);
        due(true, () -> x.removePair(6, 0));
        duePairs(x, 6999L);
    }

    /** Promise 15, "`tag`: 0 to 999": 999. */
    static void removePairTakesTheTag999() {
        HeapAndDeque x = withPairs(6, 0, 6, 999);
        due(true, () -> x.removePair(6, 999));
        duePairs(x, 6000L);
    }

    /** Promise 15, "Returns whether there was one.": there is no pair at all. */
    static void removePairOutOfNoneTellsNone() {
        HeapAndDeque x = new HeapAndDeque();
        due(false, () -> x.removePair(0, 0));
    }

    /** Promise 15, "Returns whether there was one.": of 200 none is such. */
    static void removePairOutOfFullPairsTellsNone() {
        HeapAndDeque x = withFullPairs();
        due(false, () -> x.removePair(200, 200));
        due(false, () -> x.removePair(-1, 0));
    }

    /** Promise 15, "Returns whether there was one.": of 200 one is such. */
    static void removePairOutOfFullPairsTellsOne() {
        HeapAndDeque x = withFullPairs();
        due(true, () -> x.removePair(0, 0));
        due(true, () -> x.removePair(199, 199));
    }

    /** Promise 15, "Returns whether there was one.": there was one, but it is taken. */
    static void removePairTellsNoneWhenTheLastLikeOneIsTaken() {
        HeapAndDeque x = withPairs(6, 7, 6, 7);
        due(true, () -> x.removePair(6, 7));
        due(true, () -> x.removePair(6, 7));
        due(false, () -> x.removePair(6, 7));
    }

    /** Promise 15, "Throws `IllegalArgumentException` if the tag is out of range": below by 1. */
    static void removePairRefusesTheTagMinus1() {
        HeapAndDeque x = withPairs(6, 0);
        due(IllegalArgumentException.class, () -> x.removePair(6, -1));
    }

    /** Promise 15, "Throws `IllegalArgumentException` if the tag is out of range": above by 1. */
    static void removePairRefusesTheTag1000() {
        HeapAndDeque x = withPairs(6, 999);
        due(IllegalArgumentException.class, () -> x.removePair(6, 1000));
    }

    /** Promise 15, "Throws `IllegalArgumentException` if the tag is out of range": far below. */
    static void removePairRefusesTheLeastIntAsATag() {
        HeapAndDeque x = withPairs(6, 0);
        due(IllegalArgumentException.class, () -> x.removePair(6, LEAST_INT));
    }

    /** Promise 15, "Throws `IllegalArgumentException` if the tag is out of range": far above. */
    static void removePairRefusesTheGreatestIntAsATag() {
        HeapAndDeque x = withPairs(6, 999);
        due(IllegalArgumentException.class, () -> x.removePair(6, GREATEST_INT));
    }

    /** Promise 15, "Throws `IllegalArgumentException` if the tag is out of range": no pairs. */
    static void removePairOutOfNoneRefusesTheTagAllTheSame() {
        HeapAndDeque x = new HeapAndDeque();
        due(IllegalArgumentException.class, () -> x.removePair(6, -1));
        due(IllegalArgumentException.class, () -> x.removePair(6, 1000));
    }

    // Promise 16: containsPair.

    /** Promise 16, "Tells whether there is a pair.": none at all. */
    static void noPairIsContainedInNone() {
        HeapAndDeque x = new HeapAndDeque();
        due(false, () -> x.containsPair(0, 0));
    }

    /** Promise 16, "Tells whether there is a pair.": the only one. */
    static void containsPairTellsTheOnlyPair() {
        HeapAndDeque x = withPairs(6, 7);
        due(true, () -> x.containsPair(6, 7));
        due(false, () -> x.containsPair(7, 6));
    }

    /** Promise 16, "Tells whether there is a pair.": each of 200. */
    static void containsPairTellsEachOfFullPairs() {
        HeapAndDeque x = withFullPairs();
        for (int i = 0; i < LIMIT; i++) {
            int key = i;
            due(true, () -> x.containsPair(key, key));
        }
    }

    /** Promise 16, "Tells whether there is a pair.": none besides the 200. */
    static void fullPairsContainNoOther() {
        HeapAndDeque x = withFullPairs();
        due(false, () -> x.containsPair(0, 1));
        due(false, () -> x.containsPair(-1, 0));
        due(false, () -> x.containsPair(200, 200));
    }

    /** Promise 16, "`key`: any number": the least int. */
    static void containsPairTellsTheLeastKey() {
        HeapAndDeque x = withPairs(LEAST_INT, 5);
        due(true, () -> x.containsPair(LEAST_INT, 5));
        due(false, () -> x.containsPair(LEAST_INT + 1, 5));
    }

    /** Promise 16, "`key`: any number": the greatest int. */
    static void containsPairTellsTheGreatestKey() {
        HeapAndDeque x = withPairs(GREATEST_INT, 5);
        due(true, () -> x.containsPair(GREATEST_INT, 5));
        due(false, () -> x.containsPair(GREATEST_INT - 1, 5));
    }

    /** Promise 16, "`tag`: 0 to 999": 0, beside a pair of the key ahead with the tag 999. */
    static void containsPairTellsTheTag0() {
        HeapAndDeque x = withPairs(6, 0);
        due(true, () -> x.containsPair(6, 0));
        due(false, () -> x.containsPair(5, 999));
    }

    /** Promise 16, "`tag`: 0 to 999": 999, beside a pair of the next key with the tag 0. */
    static void containsPairTellsTheTag999() {
        HeapAndDeque x = withPairs(6, 999);
        due(true, () -> x.containsPair(6, 999));
        due(false, () -> x.containsPair(7, 0));
    }

    /** Promise 16, "Returns whether there is.": no longer when it is polled. */
    static void containsPairTellsNoneThatIsPolled() {
        HeapAndDeque x = withPairs(6, 7);
        x.pollPair();
        due(false, () -> x.containsPair(6, 7));
    }

    /** Promise 16, "Returns whether there is.": no longer when it is removed out of 200. */
    static void containsPairTellsNoneThatIsRemoved() {
        HeapAndDeque x = withFullPairs();
        x.removePair(0, 0);
        due(false, () -> x.containsPair(0, 0));
    }

    /** Promise 16, "Returns whether there is.": no longer when 200 are cleared. */
    static void containsPairTellsNoneWhenCleared() {
        HeapAndDeque x = withFullPairs();
        x.clearPairs();
        due(false, () -> x.containsPair(0, 0));
        due(false, () -> x.containsPair(199, 199));
    }

    /** Promise 16, "Returns whether there is.": one of two like ones is polled. */
    static void containsPairTellsTheOtherOfTwoLikeOnes() {
        HeapAndDeque x = withPairs(6, 7, 6, 7);
        x.pollPair();
        due(true, () -> x.containsPair(6, 7));
    }

    /** Promise 16, "Throws `IllegalArgumentException` if the tag is out of range": below by 1. */
    static void containsPairRefusesTheTagMinus1() {
        HeapAndDeque x = withPairs(6, 0);
        due(IllegalArgumentException.class, () -> x.containsPair(6, -1));
    }

    /** Promise 16, "Throws `IllegalArgumentException` if the tag is out of range": above by 1. */
    static void containsPairRefusesTheTag1000() {
        HeapAndDeque x = withPairs(6, 999);
        due(IllegalArgumentException.class, () -> x.containsPair(6, 1000));
    }

    /** Promise 16, "Throws `IllegalArgumentException` if the tag is out of range": far below. */
    static void containsPairRefusesTheLeastIntAsATag() {
        HeapAndDeque x = withPairs(6, 0);
        due(IllegalArgumentException.class, () -> x.containsPair(6, LEAST_INT));
    }

    /** Promise 16, "Throws `IllegalArgumentException` if the tag is out of range": far above. */
    static void containsPairRefusesTheGreatestIntAsATag() {
        HeapAndDeque x = withPairs(6, 999);
        due(IllegalArgumentException.class, () -> x.containsPair(6, GREATEST_INT));
    }

    /** Promise 16, "Throws `IllegalArgumentException` if the tag is out of range": no pairs. */
    static void containsPairOfNoneRefusesTheTagAllTheSame() {
        HeapAndDeque x = new HeapAndDeque();
        due(IllegalArgumentException.class, () -> x.containsPair(6, -1));
        due(IllegalArgumentException.class, () -> x.containsPair(6, 1000));
    }

    // Promise 17: sizePairs.

    /** Promise 17, "Returns how many pairs there are.": none, in a new object. */
    static void theSizeOfNoPairsIs0() {
        HeapAndDeque x = new HeapAndDeque();
        due(0, x::sizePairs);
    }

    /** Promise 17, "Returns how many pairs there are.": 200. */
    static void theSizeOfFullPairsIs200() {
        HeapAndDeque x = withFullPairs();
        due(200, x::sizePairs);
    }

    /** Promise 17, "Returns how many pairs there are.": 200, after a refused call. */
    static void theSizeOfFullPairsStays200AfterARefusal() {
        HeapAndDeque x = withFullPairs();
        due(IllegalStateException.class, () -> x.offerPair(6, 7));
        due(200, x::sizePairs);
    }

    /** Promise 17, "Returns how many pairs there are.": none, after refused calls. */
    static void theSizeOfNoPairsStays0AfterARefusal() {
        HeapAndDeque x = new HeapAndDeque();
        due(NoSuchElementException.class, x::pollPair);
        due(IllegalArgumentException.class, () -> x.offerPair(6, 1000));
        due(0, x::sizePairs);
    }

    /** Promise 17, "Returns how many pairs there are.": none, of 200 that were drained. */
    static void theSizeOfDrainedPairsIs0() {
        HeapAndDeque x = withFullPairs();
        x.drainPairs();
        due(0, x::sizePairs);
    }

    /** Promise 17, "Returns how many pairs there are.": none, while the others are full. */
    static void theSizeOfNoPairsBesideFullOthersIs0() {
        HeapAndDeque x = withFullRow();
        x.addAll();
        due(0, x::sizePairs);
    }

    // Promise 18: clearPairs.

    /** Promise 18, "Empties the queue of pairs.": of 200, and it has room for 200 then. */
    static void clearPairsEmptiesFullPairs() {
        HeapAndDeque x = withFullPairs();
        x.clearPairs();
        due(0, x::sizePairs);
        for (int i = 1; i <= LIMIT; i++) {
            int held = i;
            due(held, () -> x.offerPair(-held, held));
        }
        due(IllegalStateException.class, () -> x.offerPair(0, 0));
        due(-199800L, x::peekPair);
    }

    /** Promise 18, "Empties the queue of pairs.": of a single one. */
    static void clearPairsEmptiesPairsOfOne() {
        HeapAndDeque x = withPairs(6, 7);
        x.clearPairs();
        duePairs(x);
    }

    /** Promise 18, "Empties the queue of pairs.": an empty one stays empty. */
    static void clearPairsLeavesNoPairs() {
        HeapAndDeque x = new HeapAndDeque();
        x.clearPairs();
        duePairs(x);
    }

    /** Promise 18, "Empties the queue of pairs.": it alone, not the queue and not the row. */
    static void clearPairsEmptiesNothingElse() {
        HeapAndDeque x = withFullRow();
        x.offer(1);
        x.clearPairs();
        due(LIMIT, x::length);
        dueQueue(x, 1);
    }

    /** Promise 18, "Returns how many there were.": none. */
    static void clearPairsAnswers0OfNone() {
        HeapAndDeque x = new HeapAndDeque();
        due(0, x::clearPairs);
    }

    /** Promise 18, "Returns how many there were.": a single one. */
    static void clearPairsAnswers1OfOne() {
        HeapAndDeque x = withPairs(6, 7);
        due(1, x::clearPairs);
    }

    /** Promise 18, "Returns how many there were.": 200, and none when it is called once more. */
    static void clearPairsAnswers200OfFullPairs() {
        HeapAndDeque x = withFullPairs();
        due(200, x::clearPairs);
        due(0, x::clearPairs);
    }

    // Promise 19: drainPairs.

    /** 101 in the row and so many pairs as asked: 99 are just not too many. */
    private static HeapAndDeque with101InTheRowAndPairs(int count) {
        HeapAndDeque x = withPairs(twice(upTo(count)));
        for (int number : mixed(101)) {
            x.addLast(number);
        }
        return x;
    }

    /**
     * Promise 19, "Takes all pairs out, a least one each time, and puts the key of each at the
     * last end of the row.": there is none.
     */
    static void drainPairsOfNonePutsNone() {
        HeapAndDeque x = withRow(8, 2);
        x.drainPairs();
        dueRow(x, 8, 2);
    }

    /**
     * Promise 19, "Takes all pairs out, a least one each time, and puts the key of each at the
     * last end of the row.": of 200 none is left.
     */
    static void drainPairsEmptiesFullPairs() {
        HeapAndDeque x = withFullPairs();
        x.drainPairs();
        duePairs(x);
    }

    /**
     * Promise 19, "Takes all pairs out, a least one each time, and puts the key of each at the
     * last end of the row.": the keys of 200, into an empty row.
     */
    static void drainPairsPutsTheKeysOfFullPairsInOrder() {
        HeapAndDeque x = withFullPairs();
        x.drainPairs();
        dueRow(x, upTo(LIMIT));
    }

    /**
     * Promise 19, "Takes all pairs out, a least one each time, and puts the key of each at the
     * last end of the row.": the ends of the ints as keys, with the ends of the tags, behind the
     * only one of the row.
     */
    static void drainPairsPutsTheEndsOfTheKeys() {
        HeapAndDeque x = withRow(8);
        x.offerPair(GREATEST_INT, 999);
        x.offerPair(LEAST_INT, 0);
        x.offerPair(GREATEST_INT, 0);
        x.offerPair(LEAST_INT, 999);
        x.drainPairs();
        dueRow(x, 8, LEAST_INT, LEAST_INT, GREATEST_INT, GREATEST_INT);
    }

    /**
     * Promise 19, "Takes all pairs out, a least one each time, and puts the key of each at the
     * last end of the row.": keys about 0, which a tag must not turn into their neighbours.
     */
    static void drainPairsPutsKeysAbout0() {
        HeapAndDeque x = withPairs(0, 0, 0, 999, -1, 0, -1, 999, 1, 0);
        x.drainPairs();
        dueRow(x, -1, -1, 0, 0, 1);
    }

    /**
     * Promise 19, "Takes all pairs out, a least one each time, and puts the key of each at the
     * last end of the row.": like ones each.
     */
    static void drainPairsPutsLikeOnesEach() {
        HeapAndDeque x = withPairs(6, 7, 6, 7, 1, 1, 6, 7);
        x.drainPairs();
        dueRow(x, 1, 6, 6, 6);
    }

    /** Promise 19, "Returns how many they were.": there is none. */
    static void drainPairsAnswers0OfNone() {
        HeapAndDeque x = withRow(8, 2);
        due(0, x::drainPairs);
    }

    /** Promise 19, "Returns how many they were.": a single one. */
    static void drainPairsAnswers1OfOne() {
        HeapAndDeque x = withPairs(6, 7);
        due(1, x::drainPairs);
    }

    /** Promise 19, "Returns how many they were.": 200. */
    static void drainPairsAnswers200OfFullPairs() {
        HeapAndDeque x = withFullPairs();
        due(200, x::drainPairs);
    }

    /** Promise 19, "Returns how many they were.": not how many the row holds then, up to 200. */
    static void drainPairsAnswersHowManyPairsThereWere() {
        HeapAndDeque x = with101InTheRowAndPairs(99);
        due(99, x::drainPairs);
    }

    /** Promise 19, "Throws `IllegalStateException` if the row would hold more than 200": 200. */
    static void drainPairsUpTo200IsNotRefused() {
        HeapAndDeque x = with101InTheRowAndPairs(99);
        due(99, x::drainPairs);
        due(200, x::length);
    }

    /** Promise 19, "Throws `IllegalStateException` if the row would hold more than 200": 201. */
    static void drainPairsUpTo201IsRefused() {
        HeapAndDeque x = with101InTheRowAndPairs(100);
        due(IllegalStateException.class, x::drainPairs);
    }

    /**
     * Promise 19, "Throws `IllegalStateException` if the row would hold more than 200": 201, by
     * one pair for a full row.
     */
    static void drainPairsOfOneOntoAFullRowIsRefused() {
        HeapAndDeque x = withFullRow();
        x.offerPair(6, 7);
        due(IllegalStateException.class, x::drainPairs);
    }

    /**
     * Promise 19, "Throws `IllegalStateException` if the row would hold more than 200": 201, by
     * 200 pairs for a row of one.
     */
    static void drainPairsOfFullPairsOntoARowOfOneIsRefused() {
        HeapAndDeque x = withFullPairs();
        x.addLast(7);
        due(IllegalStateException.class, x::drainPairs);
    }

    /** Promise 19, "Throws `IllegalStateException` if the row would hold more than 200": 400. */
    static void drainPairsOfFullPairsOntoAFullRowIsRefused() {
        HeapAndDeque x = withFullPairs();
        for (int number = 0; number < LIMIT; number++) {
            x.addLast(number);
        }
        due(IllegalStateException.class, x::drainPairs);
    }

    /**
     * Promise 19, "Throws `IllegalStateException` if the row would hold more than 200": 200 as
     * before, of no pairs and a full row.
     */
    static void drainPairsOfNoneOntoAFullRowIsNotRefused() {
        HeapAndDeque x = withFullRow();
        due(0, x::drainPairs);
    }

    /**
     * Promise 19, "Throws `IllegalStateException` if the row would hold more than 200": no longer
     * when one is taken of 201.
     */
    static void drainPairsIsNotRefusedWhenOneIsTakenOf201() {
        HeapAndDeque x = with101InTheRowAndPairs(100);
        due(IllegalStateException.class, x::drainPairs);
        x.removeLast();
        due(100, x::drainPairs);
    }

    public static void main(String[] args) {
        runTestsOf(PairsBoundaryTest.class);
    }
}
