import java.util.function.IntUnaryOperator;

/**
 * Each promise's sentences that name a boundary: every "INVALID_ARGUMENT if",
 * "NOT_POSSIBLE if", "LIMIT_REACHED if" and "NOT_FOUND if" with the last
 * argument on either side of it, and which error comes first.
 */
public final class CallBoundariesTest extends Cases {
    private CallBoundariesTest() {
    }

    /** A range with both ends: the call is INVALID just beyond them and far off, and is not at them. */
    private static void range(String call, int lowest, int highest, IntUnaryOperator made) {
        for (int wrong : new int[] {LEAST, lowest - 1, highest + 1, MOST}) {
            due(call + " of " + wrong, made.applyAsInt(wrong), INVALID);
        }
        due(call + " of the lowest is not INVALID", made.applyAsInt(lowest) == INVALID ? 1 : 0, 0);
        due(call + " of the highest is not INVALID", made.applyAsInt(highest) == INVALID ? 1 : 0, 0);
    }

    /** A place, "0 or more": INVALID below 0, the given error from some place on. */
    private static void places(String call, int last, int behind, IntUnaryOperator made) {
        due(call + " of the least int", made.applyAsInt(LEAST), INVALID);
        due(call + " of -1", made.applyAsInt(-1), INVALID);
        if (last >= 0) {
            due(call + " of 0 is found", made.applyAsInt(0) >= 0 ? 1 : 0, 1);
            due(call + " of the last, " + last + ", is found", made.applyAsInt(last) >= 0 ? 1 : 0, 1);
        }
        due(call + " of " + (last + 1), made.applyAsInt(last + 1), behind);
        due(call + " of the largest int", made.applyAsInt(MOST), behind);
    }

    private static LearningSpans forty() {
        return with(new int[40]);
    }

    // ---- messages

    private static void putInItsRange() {
        range("put, new", 0, 7, letter -> new LearningSpans().put(letter));
        range("put, ended", 0, 7, letter -> ended("a").put(letter));
        range("put, forty letters", 0, 7, letter -> forty().put(letter));
        due("put(7) at first", new LearningSpans().put(7), 2);
    }

    private static void putWhenEndedAndAtTheLimit() {
        LearningSpans x = with(new int[39]);
        due("the fortieth", x.put(7) >= 0 ? 1 : 0, 1);
        due("LIMIT_REACHED if it has 40 letters", x.put(7), LIMIT);
        due("INVALID_ARGUMENT ahead of LIMIT_REACHED", x.put(8), INVALID);
        x.end();
        due("NOT_POSSIBLE ahead of LIMIT_REACHED", x.put(7), NOT_POSSIBLE);
        due("INVALID_ARGUMENT ahead of both", x.put(-1), INVALID);
        x.drop(1);
        due("room again behind drop(1)", x.put(7) >= 0 ? 1 : 0, 1);
        due("NOT_POSSIBLE if the message is ended, empty", ended("").put(0), NOT_POSSIBLE);
        due("INVALID_ARGUMENT ahead of NOT_POSSIBLE", ended("").put(8), INVALID);
    }

    /** put returns "how many bits are written by it": none, if all that is known waits or nothing is known. */
    private static void putThatWritesNothing() {
        due("all bits wait", new LearningSpans().put(4), 0);
        LearningSpans x = by(22, 400);
        put(x, "eee");
        due("nothing is known", x.put(4), 0);
    }

    private static void endOnceAndAgain() {
        LearningSpans x = new LearningSpans();
        due("end() of an empty one", x.end(), 5);
        due("NOT_POSSIBLE if it is ended, empty", x.end(), NOT_POSSIBLE);
        x = forty();
        due("end() of forty", x.end(), 17);
        due("NOT_POSSIBLE if it is ended, forty", x.end(), NOT_POSSIBLE);
        x.undo();
        due("end() behind its undo()", x.end(), 17);
        due("end() of more than 120 bits", longMessage().end(), 139);
    }

    private static void beginBehindNoneAndForty() {
        LearningSpans x = forty();
        due("begin() behind forty", x.begin(), 40);
        due("begin() behind none", x.begin(), 0);
        x.end();
        due("begin() behind an ended empty one", x.begin(), 0);
        alike("begin() behind an ended empty one", x, new LearningSpans());
        x = ended("abc");
        due("begin() behind an ended one", x.begin(), 3);
        alike("begin() behind an ended one", x, new LearningSpans());
    }

    private static void dropInItsRange() {
        range("drop, none there", 1, 40, many -> new LearningSpans().drop(many));
        range("drop, forty letters", 1, 40, many -> forty().drop(many));
        due("drop(0)", forty().drop(0), INVALID);
    }

    private static void dropAllAndOneMore() {
        for (int size : new int[] {0, 1, 39, 40}) {
            LearningSpans x = with(new int[size]);
            // 41 is no number of letters to drop
            int error = size == 40 ? INVALID : NOT_POSSIBLE;
            due("drop of one more than " + size, x.drop(size + 1), error);
            x.end();
            due("drop of one more than " + size + ", ended", x.drop(size + 1), error);
            due("it is still ended", x.count(7), 1);
            if (size > 0) {
                due("drop of all " + size, x.drop(size), 0);
                alike("drop of all " + size, x, new LearningSpans());
            }
        }
        LearningSpans ended = ended("eh");
        due("drop(1) of an ended one", ended.drop(1), 0);
        alike("drop(1) of an ended one: it is not ended", ended, with(4));
        LearningSpans halved = by(64, 32);
        put(halved, "ab");
        halved.drop(1);
        LearningSpans one = by(64, 32);
        one.put(0);
        alike("drop(1) takes a halving back", halved, one);
    }

    private static void mendInItsRanges() {
        range("mend(0, letter)", 0, 7, letter -> with(3).mend(0, letter));
        range("mend(0, letter) of none", 0, 7, letter -> new LearningSpans().mend(0, letter));
        range("mend(most, letter)", 0, 7, letter -> with(3).mend(MOST, letter));
        places("mend(place, 0) of none", -1, NOT_POSSIBLE, place -> new LearningSpans().mend(place, 0));
        places("mend(place, 7) of one", 0, NOT_POSSIBLE, place -> with(3).mend(place, 7));
        places("mend(place, 7) of one, ended", 0, NOT_POSSIBLE, place -> ended("d").mend(place, 7));
        places("mend(place, 7) of forty", 39, NOT_POSSIBLE, place -> forty().mend(place, 7));
        due("both wrong", with(3).mend(-1, 8), INVALID);
    }

    private static void mendOfTheFirstAndTheLast() {
        LearningSpans x = ended("abc");
        LearningSpans y = ended("hbc");
        due("mend of the first, ended", x.mend(0, 7), y.count(1));
        alike("mend of the first, ended", x, y);
        x = with(0, 1, 2);
        y = with(0, 1, 7);
        due("mend of the last", x.mend(2, 7), y.count(1));
        alike("mend of the last", x, y);
    }

    private static void setInItsRanges() {
        range("set(what, 40)", 0, 1, what -> new LearningSpans().set(what, 40));
        range("set(0, value)", 1, 64, value -> new LearningSpans().set(0, value));
        range("set(1, value)", 32, 2000, value -> new LearningSpans().set(1, value));
        due("a value of the other setting, 65", new LearningSpans().set(0, 65), INVALID);
        due("a value of the other setting, 31", new LearningSpans().set(1, 31), INVALID);
        due("both wrong", new LearningSpans().set(2, 0), INVALID);
    }

    // ---- what there is

    private static void letterAtItsPlaces() {
        places("letter of none", -1, NOT_FOUND, place -> new LearningSpans().letter(place));
        places("letter of one", 0, NOT_FOUND, place -> with(7).letter(place));
        places("letter of one, ended", 0, NOT_FOUND, place -> ended("h").letter(place));
        places("letter of forty", 39, NOT_FOUND, place -> forty().letter(place));
        due("the last letter", with(1, 7).letter(1), 7);
    }

    private static void bitAtItsPlaces() {
        places("bit of none", -1, NOT_FOUND, place -> new LearningSpans().bit(place));
        places("bit, all wait", -1, NOT_FOUND, place -> with(4).bit(place));
        places("bit of three", 2, NOT_FOUND, place -> with(0).bit(place));
        places("bit of five, ended", 4, NOT_FOUND, place -> ended("").bit(place));
        places("bit of 131", 130, NOT_FOUND, place -> longMessage().bit(place));
        LearningSpans x = longMessage();
        x.end();
        places("bit of 139", 138, NOT_FOUND, x::bit);
    }

    private static void letterOfInItsRanges() {
        range("letterOf(letter, 0)", 0, 8, letter -> new LearningSpans().letterOf(letter, 0));
        range("letterOf(letter, 3)", 0, 8, letter -> new LearningSpans().letterOf(letter, 3));
        range("letterOf(letter, 3), ended", 0, 8, letter -> ended("a").letterOf(letter, 3));
        range("letterOf(0, what)", 0, 3, what -> new LearningSpans().letterOf(0, what));
        range("letterOf(8, what), ended", 0, 3, what -> ended("a").letterOf(8, what));
    }

    /** "NOT_POSSIBLE for 3 if the message is ended": for 0, 1 and 2 it is possible. */
    private static void letterOfWhenEnded() {
        LearningSpans x = ended("ccc");
        int[] letters = {0, 2, 7, 8};
        int[][] answers = {{1, 0, 0}, {25, 2, 3}, {1, 31, 0}, {1, 32, 0}};
        for (int i = 0; i < letters.length; i++) {
            for (int what = 0; what <= 2; what++) {
                due("letterOf(" + letters[i] + ", " + what + "), ended", x.letterOf(letters[i], what), answers[i][what]);
            }
            due("letterOf(" + letters[i] + ", 3), ended", x.letterOf(letters[i], 3), NOT_POSSIBLE);
        }
        x.undo();
        due("letterOf(8, 3) behind undo()", x.letterOf(8, 3) >= 0 ? 1 : 0, 1);
        due("what the end would write, behind no bits", new LearningSpans().letterOf(8, 3), 5);
        due("what the end would write, behind three bits", with(0).letterOf(8, 3), 5);
        due("what the end would write, three bits wait", with(4).letterOf(8, 3), 8);
        due("how often, of forty", forty().letterOf(0, 2), 40);
    }

    private static void countInItsRange() {
        range("count", 0, 12, what -> new LearningSpans().count(what));
        int[] first = {0, 0, 0, 0, 65535, 9, 0, 0, 0, 0, 8, 400, 0};
        int[] ended = {0, 5, 0, 7280, 65535, 9, 0, 1, 1, 0, 8, 400, 0};
        for (int what = 0; what <= 12; what++) {
            due("count(" + what + "), new", new LearningSpans().count(what), first[what]);
            due("count(" + what + "), ended", ended("").count(what), ended[what]);
        }
    }

    /** count(12): "by the letter that wrote most (0 without letters)"; the end is no letter. */
    private static void theLetterThatWroteMost() {
        due("without letters, ended", ended("").count(12), 0);
        due("one that wrote nothing", with(4).count(12), 0);
        due("one that wrote nothing, ended", ended("e").count(12), 0);
        due("the last wrote most", with(4, 0).count(12), 6);
        due("the first wrote most", with(0, 0).count(12), 3);
        LearningSpans x = with(4, 0);
        x.drop(1);
        due("the last is dropped", x.count(12), 0);
    }

    private static void costAtItsPlaces() {
        places("cost of none", -1, NOT_FOUND, place -> new LearningSpans().cost(place));
        places("cost of none, ended", -1, NOT_FOUND, place -> ended("").cost(place));
        places("cost of one", 0, NOT_FOUND, place -> with(4).cost(place));
        places("cost of one, ended", 0, NOT_FOUND, place -> ended("e").cost(place));
        places("cost of forty", 39, NOT_FOUND, place -> forty().cost(place));
        due("cost of one that wrote nothing", with(4, 0).cost(0), 0);
        due("cost of one that wrote its own and what waited", with(4, 0).cost(1), 6);
    }

    // ---- what would be

    private static void bitsByInItsRange() {
        range("bitsBy, empty", 1, 64, pace -> new LearningSpans().bitsBy(pace));
        range("bitsBy, forty, ended", 1, 64, pace -> ended("h".repeat(40)).bitsBy(pace));
        due("bitsBy of an empty one", new LearningSpans().bitsBy(1), 5);
        due("bitsBy of an ended empty one", ended("").bitsBy(64), 5);
        due("bitsBy(64) of forty", forty().bitsBy(64), 14);
        due("bitsBy(63) of forty, ended", ended("a".repeat(40)).bitsBy(63), 13);
    }

    /** "Returns the pace, of several the lowest." */
    private static void bestPaceOfSeveral() {
        due("all paces alike", new LearningSpans().bestPace(), 1);
        due("1 and 2 alike", with(0).bestPace(), 1);
        due("1 alone", with(0, 1, 2, 3, 4, 5, 6, 7).bestPace(), 1);
        due("2 alone", with(1, 0, 0).bestPace(), 2);
        due("4 and 6 alike", with(1, 1).bestPace(), 4);
        due("5, 7, 8 and 11 alike", with(4, 4).bestPace(), 5);
        due("5 alike, ended", ended("ee").bestPace(), 5);
        LearningSpans nine = by(8, 32);
        put(nine, "a".repeat(9));
        due("64 alone", nine.bestPace(), 64);
        due("63 alone", forty().bestPace(), 63);
    }

    private static void readBackInItsRange() {
        range("readBack, empty", 0, 2, what -> new LearningSpans().readBack(what));
        range("readBack, ended", 0, 2, what -> ended("abc").readBack(what));
    }

    /** "how many letters are told before reading is over or breaks off", "from the first one on". */
    private static void readBackOfOddOnes() {
        read("empty", new LearningSpans(), 40, 0, 0);
        read("empty, ended", ended(""), 0, 1, 0);
        read("forty, ended", ended("a".repeat(40)), 40, 1, 40);
        read("forty, not ended", forty(), 40, 0, 40);
        read("one, its bits wait", with(4), 40, 0, 0);
        LearningSpans x = ended("hgfedcba");
        read("ended", x, 8, 1, 8);
        x = longMessage();
        x.end();
        read("forty in 139 bits", x, 40, 1, 40);
    }

    private static void read(String what, LearningSpans x, int letters, int over, int alike) {
        due(what + ": letters read", x.readBack(0), letters);
        due(what + ": over", x.readBack(1), over);
        due(what + ": letters alike", x.readBack(2), alike);
    }

    private static void undoDownToNone() {
        LearningSpans x = new LearningSpans();
        due("NOT_POSSIBLE if it is empty", x.undo(), NOT_POSSIBLE);
        for (int changes = 1; changes <= 5; changes++) {
            x = with(new int[changes]);
            int kept = Math.min(4, changes);
            for (int left = kept - 1; left >= 0; left--) {
                due("undo() behind " + changes, x.undo(), left);
                due("states behind it", x.count(8), left);
            }
            due("undo() of none behind " + changes, x.undo(), NOT_POSSIBLE);
            due("letters behind it", x.count(0), changes - kept);
        }
    }

    // ---- texts

    private static void typeInItsRange() {
        range("type, empty", 32, 126, character -> new LearningSpans().type(character));
        String full = "0".repeat(120);
        range("type, full", 32, 126, character -> typed(full).type(character));
        due("the 120th", typed("0".repeat(119)).type('1'), 120);
        due("LIMIT_REACHED if it has 120 characters", typed(full).type('1'), LIMIT);
        due("INVALID_ARGUMENT ahead of LIMIT_REACHED", typed(full).type(127), INVALID);
    }

    private static void clearTextOfNoneAndAll() {
        due("clearText() of none", new LearningSpans().clearText(), 0);
        due("clearText() of one", typed("~").clearText(), 1);
        LearningSpans x = typed("0".repeat(120));
        due("clearText() of 120", x.clearText(), 120);
        due("clearText() again", x.clearText(), 0);
        due("length", x.count(9), 0);
    }

    /** "LIMIT_REACHED if there are more than 120" bits; 120 there are with 34 letters and the end. */
    private static void writeOf120BitsAndMore() {
        LearningSpans x = by(1, 2000);
        type(x, "x");
        put(x, "abcdefgh".repeat(4) + "ab");
        due("120 bits", x.end(), 120);
        due("write() of 120", x.write(), 120);
        due("no fault", x.fault(1), NOT_FOUND);
        same("told", told(x), "abcdefgh".repeat(4) + "ab");
        x.undo();
        due("112 bits, not ended", x.count(1), 112);
        due("write() of 112", x.write(), 112);
        for (int bits : new int[] {121, 123, 131, 139}) {
            LearningSpans y = ofBits(bits);
            type(y, "x");
            due("write() of " + bits, y.write(), LIMIT);
            due("the text stays", y.count(9), 1);
        }
        due("write() of none", new LearningSpans().write(), 0);
        LearningSpans none = typed("111");
        due("write() of none over a text", none.write(), 0);
        due("its length", none.count(9), 0);
        due("write() while all bits wait", with(4).write(), 0);
    }

    private static LearningSpans ofBits(int bits) {
        LearningSpans x = longMessage();
        if (bits == 139) {
            x.end();
        } else if (bits == 123) {
            x.drop(5);
            x.end();
        } else if (bits == 121) {
            x.drop(4);
            x.put(0);
        }
        due("a message of so many bits", x.count(1), bits);
        return x;
    }

    private static void faultInItsRange() {
        range("fault of the empty text", 0, 1, what -> new LearningSpans().fault(what));
        range("fault of a text without one", 0, 1, what -> typed("1111").fault(what));
        due("NOT_FOUND if the text has no fault, 0", typed("1111").fault(0), NOT_FOUND);
        due("NOT_FOUND if the text has no fault, 1", typed("1111").fault(1), NOT_FOUND);
        due("a fault at 0 is a fault", typed("x111").fault(0), 0);
        due("one bit less than without a fault", typed("111").fault(0), 3);
    }

    private static void toldAtItsPlaces() {
        places("told, the end alone", -1, NOT_FOUND, place -> typed("1111").told(place));
        places("told, one letter", 0, NOT_FOUND, place -> typed("10001101").told(place));
        places("told, forty letters", 39, NOT_FOUND, place -> typed("00000000110010111").told(place));
        for (String text : new String[] {"", "111", "1111x", "1".repeat(17), "000000001100011011"}) {
            places("told with a fault, " + text, -1, NOT_POSSIBLE, place -> typed(text).told(place));
        }
        due("the last letter", typed("1000110010000").told(1), 7);
    }

    public static void main(String[] arguments) {
        putInItsRange();
        putWhenEndedAndAtTheLimit();
        putThatWritesNothing();
        endOnceAndAgain();
        beginBehindNoneAndForty();
        dropInItsRange();
        dropAllAndOneMore();
        mendInItsRanges();
        mendOfTheFirstAndTheLast();
        setInItsRanges();
        letterAtItsPlaces();
        bitAtItsPlaces();
        letterOfInItsRanges();
        letterOfWhenEnded();
        countInItsRange();
        theLetterThatWroteMost();
        costAtItsPlaces();
        bitsByInItsRange();
        bestPaceOfSeveral();
        readBackInItsRange();
        readBackOfOddOnes();
        undoDownToNone();
        typeInItsRange();
        clearTextOfNoneAndAll();
        writeOf120BitsAndMore();
        faultInItsRange();
        toldAtItsPlaces();
        Check.finish();
    }
}
