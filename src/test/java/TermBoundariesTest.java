/**
 * The document's Terms: a test for each sentence that names a boundary. The
 * edges of the span have SpanEdgesTest.
 */
public final class TermBoundariesTest extends Cases {
    private static final String FORTY = "a".repeat(40);

    private TermBoundariesTest() {
    }

    // ---- letters, counts

    /** "if the total is above setting 1": not as long as it is at setting 1. */
    private static void totalAtTheBoundAndAboveIt() {
        LearningSpans at = by(23, 32);
        at.put(1);
        due("total at the bound", at.count(5), 32);
        due("total at the bound: halvings", at.count(6), 0);
        due("total at the bound: count", at.letterOf(1, 0), 24);
        LearningSpans above = by(24, 32);
        above.put(1);
        // 25 and eight times 1 are 33; 13 and eight times 1 are left
        due("total one above the bound", above.count(5), 21);
        due("total one above the bound: halvings", above.count(6), 1);
        due("total one above the bound: count", above.letterOf(1, 0), 13);
        LearningSpans below = by(22, 32);
        below.put(1);
        due("total one below the bound", below.count(5), 31);
        due("total one below the bound: halvings", below.count(6), 0);
    }

    private static void totalAtAHighBoundAndAboveIt() {
        String thirtyOne = "a".repeat(31);
        LearningSpans at = by(64, 1993);
        put(at, thirtyOne);
        due("total at 1993", at.count(5), 1993);
        due("total at 1993: halvings", at.count(6), 0);
        LearningSpans above = by(64, 1992);
        put(above, thirtyOne);
        // 1985 and eight times 1: half of it and 1 more are 993
        due("total above 1992", above.count(5), 1001);
        due("total above 1992: halvings", above.count(6), 1);
        LearningSpans highest = by(64, 2000);
        put(highest, thirtyOne);
        due("total below 2000: halvings", highest.count(6), 0);
        highest.put(0);
        due("total above 2000: halvings", highest.count(6), 1);
        due("total above 2000", highest.count(5), 1033);
    }

    /** "Once, even if the total is still above it." */
    private static void halvedOnceEvenIfStillAbove() {
        LearningSpans x = by(64, 32);
        x.put(0);
        due("still above the bound", x.count(5), 41);
        due("still above the bound: halvings", x.count(6), 1);
        due("still above the bound: count", x.letterOf(0, 0), 33);
        x.put(1);
        // 33 65 1 1 1 1 1 1 1 become 17 33 1 1 1 1 1 1 1
        due("again above the bound", x.count(5), 57);
        due("again above the bound: halvings", x.count(6), 2);
        due("again above the bound: the one before", x.letterOf(0, 0), 17);
        due("again above the bound: the one put", x.letterOf(1, 0), 33);
    }

    /** "half of it plus 1 more, rounded down": 22, 2, 3 and 1 become 11, 1, 2 and 1. */
    private static void halvesOfEvenAndOddCounts() {
        LearningSpans x = by(1, 32);
        put(x, "a".repeat(21) + "bc");
        due("ahead of the halving: total", x.count(5), 32);
        due("ahead of the halving: halvings", x.count(6), 0);
        x.put(2);
        int[] counts = {11, 1, 2, 1, 1, 1, 1, 1, 1};
        int below = 0;
        for (int letter = 0; letter <= 8; letter++) {
            due("halved: count of " + letter, x.letterOf(letter, 0), counts[letter]);
            due("halved: below " + letter, x.letterOf(letter, 1), below);
            below += counts[letter];
        }
        due("halved: total", x.count(5), 20);
    }

    /** "When a letter (0 to 7) is put, its count becomes more": the end's count never does. */
    private static void theEndLearnsNothing() {
        LearningSpans x = by(64, 32);
        x.end();
        due("ended: count of the end", x.letterOf(8, 0), 1);
        due("ended: total", x.count(5), 9);
        due("ended: halvings", x.count(6), 0);
    }

    /** "the sum of the counts of all letters with lower numbers": none below 0, all but the end below 8. */
    private static void belowTheFirstAndTheLast() {
        LearningSpans x = with(0, 7, 7);
        due("below 0", x.letterOf(0, 1), 0);
        due("below 7", x.letterOf(7, 1), 15);
        due("below the end", x.letterOf(8, 1), 32);
        due("total", x.count(5), 33);
    }

    // ---- messages

    /** "A message begins with all counts 1, the whole span, no bits, none waiting." */
    private static void anEmptyMessage() {
        LearningSpans x = new LearningSpans();
        due("empty: end() has never been", x.count(7), 0);
        same("empty: row", bits(x), "");
        due("empty: letters read", x.readBack(0), 40);
        due("empty: reading breaks off", x.readBack(1), 0);
        due("empty: what its end would write", x.letterOf(8, 3), 5);
        due("empty: end()", x.end(), 5);
        same("empty, ended: row", bits(x), "11101");
        due("empty, ended: letters", x.count(0), 0);
        due("empty, ended: waiting", x.count(2), 0);
        // 58254, 50972, 36408 and 7280, as 32768 is taken off three times and each time it doubles
        due("empty, ended: low", x.count(3), 7280);
        due("empty, ended: high", x.count(4), 65535);
        due("empty, ended: letters read", x.readBack(0), 0);
        due("empty, ended: reading is over", x.readBack(1), 1);
        due("empty, ended: letters alike", x.readBack(2), 0);
        due("empty, ended: letter(0)", x.letter(0), NOT_FOUND);
        due("empty, ended: cost(0)", x.cost(0), NOT_FOUND);
    }

    /** "A message has at most 40 letters." */
    private static void fortyLettersAndOneMore() {
        LearningSpans x = new LearningSpans();
        put(x, "a".repeat(39));
        due("letters ahead of the fortieth", x.count(0), 39);
        due("the fortieth is put", x.put(0) < 0 ? -1 : x.count(0), 40);
        due("a forty-first is refused", x.put(0), LIMIT);
        due("letters behind it", x.count(0), 40);
        same("the end of forty is no letter", x.end() + " bits, " + x.count(0) + " letters", "17 bits, 40 letters");
    }

    /** "Nothing can be put then until another message begins": by begin, by set; or by drop and undo it is not ended. */
    private static void nothingIsPutIntoAnEndedOne() {
        LearningSpans x = ended("ah");
        for (int letter = 0; letter < 8; letter++) {
            due("put(" + letter + ") when ended", x.put(letter), NOT_POSSIBLE);
        }
        due("put when empty and ended", ended("").put(0), NOT_POSSIBLE);
        x.undo();
        due("put behind undo() of the end", x.put(7) >= 0 ? x.count(0) : -1, 3);
        x = ended("ah");
        x.begin();
        due("put behind begin()", x.put(0), 3);
        x = ended("ah");
        x.set(0, 8);
        due("put behind set()", x.put(0), 3);
        x = ended("ah");
        x.drop(1);
        due("put behind drop()", x.put(7) >= 0 ? x.count(0) : -1, 2);
        x = ended("ah");
        x.mend(0, 7);
        due("put behind mend(): it is still ended", x.put(0), NOT_POSSIBLE);
    }

    /** "the bit 0 is written, if low is below 16384, otherwise 1": at 16384, at the last number below, far off. */
    private static void lastBitsByTheLowNumber() {
        endOf("low 16384", by(45, 400), "d", "0111000110", 16384);
        endOf("low 16384, fewer counts", by(8, 400), "bddad", "0010111110011001010000", 16384);
        // low is an even number there, and 16376 the highest below 16384 that a short message comes to
        endOf("low 16376", by(1, 400), "hgh", "1101101010111", 16376);
        endOf("low 16368", by(12, 400), "eg", "1000101101111", 16368);
        endOf("low far below", by(8, 400), "e", "10001101", 8936);
        endOf("low far above", by(8, 400), "eh", "1000110010000", 21472);
    }

    private static void endOf(String what, LearningSpans x, String letters, String row, int low) {
        put(x, letters);
        due(what + ": end()", x.end(), row.length());
        same(what + ": row", bits(x), row);
        due(what + ": low", x.count(3), low);
        due(what + ": waiting", x.count(2), 0);
        same(what + ": read back", x.readBack(0) + " " + x.readBack(1) + " " + x.readBack(2),
            letters.length() + " 1 " + letters.length());
    }

    /** "then as many of the other bit as wait come behind it, and none waits any more": none, three, and three at the end. */
    private static void bitsThatWait() {
        LearningSpans x = with(0);
        same("none waited", bits(x) + ", " + x.count(2), "000, 0");
        x = with(4);
        same("three wait", bits(x) + ", " + x.count(2), ", 3");
        x.put(0);
        same("three come behind a bit 0", bits(x) + ", " + x.count(2), "011100, 0");
        x = with(4, 7);
        same("three come behind a bit 1, and another one waits", bits(x) + ", " + x.count(2), "10001, 1");
        x = with(4);
        x.end();
        same("three come behind the first bit of the end", bits(x) + ", " + x.count(2), "10001101, 0");
    }

    // ---- reading

    /** "bits behind the last one are 0": with or without them the same is told. */
    private static void bitsBehindTheLastAreZero() {
        String[][] rows = {{"1111", ""}, {"111001", ""}, {"00011011", "a"}, {"10001101", "e"}, {"011100001", "d"},
            {"0010111110011001010000", "bddad"}, {"001011111001100101", "bddad"}};
        for (String[] row : rows) {
            for (int more = 0; row[0].length() + more <= 120; more += 7) {
                LearningSpans x = typed(row[0] + "0".repeat(more));
                due(row[0] + " and " + more + " bits 0: fault", x.fault(1), NOT_FOUND);
                same(row[0] + " and " + more + " bits 0: told", told(x), row[1]);
            }
        }
    }

    /** Nor is anything left of a longer text, or of a longer message, that was read before. */
    private static void nothingIsBehindTheLastBitOfAShorterRow() {
        LearningSpans x = typed("1".repeat(120));
        due("a long text: place of its fault", x.fault(0), 16);
        x.clearText();
        type(x, "00011011");
        due("a short text behind it: fault", x.fault(1), NOT_FOUND);
        same("a short text behind it: told", told(x), "a");
        x = typed("1111");
        due("the end alone: fault", x.fault(1), NOT_FOUND);
        x.clearText();
        type(x, "111");
        due("one bit fewer behind it: place of the fault", x.fault(0), 3);
        due("one bit fewer behind it: reason", x.fault(1), 2);
        x = typed("xxxxxxxxxxxx");
        x.clearText();
        type(x, "111");
        due("strange characters that were cleared: place of the fault", x.fault(0), 3);
        due("strange characters that were cleared: reason", x.fault(1), 2);
        x = ended("hgfedcba".repeat(5));
        due("a long message: letters alike", x.readBack(2), 40);
        x.begin();
        x.put(0);
        same("a short one behind it: read", x.readBack(0) + " " + x.readBack(1) + " " + x.readBack(2), "40 0 1");
        // a comes from the bits 0 alone, and bits 1 are left of the message before
        x.drop(1);
        same("one without bits behind it: read", x.readBack(0) + " " + x.readBack(1) + " " + x.readBack(2), "40 0 0");
    }

    /** "the letter is that for which b is at most (..) / r, and b + c is above that": the ends of the parts of h, a, d, e, f. */
    private static void numbersAtTheEndsOfTheParts() {
        toldIs("65535", "1111111111111111", "");
        toldIs("58254, the lowest of the end", "1110001110001110", "");
        toldIs("58253, the highest of h", "1110001110001101", "h");
        toldIs("7280, the highest of a", "0001110001110000", "a");
        toldIs("7281, the lowest of b", "00011100011100011100111", "b" + "a".repeat(35));
        toldIs("29126, the highest of d", "0111000111000110", "d");
        toldIs("29127, the lowest of e", "01110001110001111100111", "e" + "a".repeat(35));
        toldIs("36407, the highest of e", "1000111000110111", "e");
        toldIs("36408, the lowest of f", "10001110001110001100011", "f" + "a".repeat(35) + "eaa");
        // behind a, by the pace 7: low 0, r 58248, a total of 16, and a's part is to 29123 just
        LearningSpans x = by(7, 400);
        x.put(0);
        same("behind a", x.count(3) + " " + x.count(4) + " " + x.count(5) + " " + x.letterOf(0, 0), "0 58247 16 8");
        type(x, "0000111000111000011");
        due("29123 behind a: fault", x.fault(1), NOT_FOUND);
        same("29123 behind a: told", told(x), "aa");
    }

    private static void toldIs(String what, String row, String letters) {
        LearningSpans x = typed(row);
        due(what + ": fault", x.fault(1), NOT_FOUND);
        same(what + ": told", told(x), letters);
    }

    /** "If it is the end, reading is over": also behind the fortieth letter. */
    private static void endBehindTheFortiethLetter() {
        LearningSpans x = ended(FORTY);
        same("forty, ended: row", bits(x), "00000000110010111");
        same("forty, ended: read", x.readBack(0) + " " + x.readBack(1) + " " + x.readBack(2), "40 1 40");
        toldIs("forty and the end", "00000000110010111", FORTY);
        toldIs("thirty-nine and the end", "000000001101000011", "a".repeat(39));
    }

    /** "Reading breaks off at a forty-first letter", be it followed by an end or not. */
    private static void breakingOffAtAFortyFirstLetter() {
        faultIs("forty-one and the end", "000000001100011011", 18, 2);
        faultIs("forty, another letter and the end", "000000001100101101110000101", 27, 2);
        LearningSpans x = with();
        put(x, FORTY);
        same("forty, not ended: row", bits(x), "00000000");
        same("forty, not ended: read", x.readBack(0) + " " + x.readBack(1) + " " + x.readBack(2), "40 0 40");
    }

    /** "the settings are as at the beginning of a message": what is read depends on them, not on the letters put. */
    private static void readingByTheSettings() {
        LearningSpans x = ended("adah");
        x.write();
        x.begin();
        put(x, "hhhhh");
        same("told behind other letters", told(x), "adah");
        LearningSpans slow = by(1, 400);
        put(slow, "aaaaaaaaaaaa");
        slow.end();
        slow.write();
        same("told by the same pace", told(slow), "a".repeat(12));
        slow.set(0, 64);
        Check.holds("told by another pace is another", !told(slow).equals("a".repeat(12)));
        slow.undo();
        same("told by the pace that was", told(slow), "a".repeat(12));
        LearningSpans low = by(64, 32);
        put(low, "abcdabcdab");
        due("by a low bound: end()", low.end(), 51);
        low.write();
        same("told by the same bound", told(low), "abcdabcdab");
        due("no fault by the same bound", low.fault(0), NOT_FOUND);
        low.set(1, 400);
        // a a a g and twelve times a, and 29 bits are taken
        due("place of the fault by another bound", low.fault(0), 31);
        due("reason of the fault by another bound", low.fault(1), 3);
    }

    // ---- settings

    /** "0 the pace of learning (1 to 64; 8), 1 the bound of the total (32 to 2000; 400)". */
    private static void rangesOfTheSettings() {
        int[][] ranges = {{1, 64, 8}, {32, 2000, 400}};
        for (int what = 0; what < ranges.length; what++) {
            int lowest = ranges[what][0];
            int highest = ranges[what][1];
            LearningSpans x = new LearningSpans();
            due(what + " at first", x.count(10 + what), ranges[what][2]);
            for (int wrong : new int[] {LEAST, -lowest, 0, lowest - 1, highest + 1, MOST}) {
                due("set(" + what + ", " + wrong + ")", x.set(what, wrong), INVALID);
            }
            due(what + " behind wrong ones", x.count(10 + what), ranges[what][2]);
            due("set(" + what + ", lowest)", x.set(what, lowest), ranges[what][2]);
            due(what + ", lowest", x.count(10 + what), lowest);
            due("set(" + what + ", highest)", x.set(what, highest), lowest);
            due(what + ", highest", x.count(10 + what), highest);
            due("set(" + what + ", lowest and 1)", x.set(what, lowest + 1), highest);
            due("set(" + what + ", highest less 1)", x.set(what, highest - 1), lowest + 1);
            due("the other one stays", x.count(11 - what), ranges[1 - what][2]);
        }
    }

    /** "When one is set, a message begins": also if it was the same, if letters are there, if it is ended. */
    private static void settingBeginsAMessage() {
        for (int what = 0; what < 2; what++) {
            for (int ends = 0; ends < 2; ends++) {
                LearningSpans x = by(64, 32);
                put(x, "eah");
                if (ends == 1) {
                    x.end();
                }
                x.type('1');
                int value = what == 0 ? 64 : 32;
                due("set to the same", x.set(what, value), value);
                alike("a message begun by set(" + what + ")", x, by(64, 32));
                due("the text stays", x.count(9), 1);
                x.undo();
                due("set to the same is a change", x.count(0), 3);
            }
        }
    }

    // ---- texts

    /** "a text of at most 120 characters, initially empty". */
    private static void emptyTextFullTextAndOneMore() {
        LearningSpans x = new LearningSpans();
        due("empty text", x.count(9), 0);
        faultIs("empty text", "", 0, 2);
        for (int length = 1; length <= 119; length++) {
            x.type('1');
        }
        due("one less than full", x.count(9), 119);
        due("the last one", x.type('2'), 120);
        due("one more", x.type('1'), LIMIT);
        due("full", x.count(9), 120);
        due("the last one is there", x.fault(1) == 1 ? x.fault(0) : -1, 119);
        due("emptied", x.clearText(), 120);
        due("room again", x.type('1'), 1);
    }

    /** "1: a character that is none of these (the index of the first one)". */
    private static void strangeCharacters() {
        faultIs("a strange one alone", "x", 0, 1);
        faultIs("two strange ones", "01xy", 2, 1);
        faultIs("beside 0", "111/", 3, 1);
        faultIs("beside 1", "1112", 3, 1);
        faultIs("the least character", "111001 ", 6, 1);
        faultIs("the highest character", "111001~", 6, 1);
        faultIs("at the last of 120", "1".repeat(119) + "o", 119, 1);
        faultIs("at the first of 120", "O" + "0".repeat(119), 0, 1);
    }

    /** "2: reading breaks off (the length of the text)". */
    private static void breakingOff() {
        faultIs("no bits", "", 0, 2);
        faultIs("one bit", "0", 1, 2);
        faultIs("one bit 1", "1", 1, 2);
        faultIs("bits that are not enough for the end", "111", 3, 2);
        faultIs("120 bits", "0".repeat(120), 120, 2);
        faultIs("120 bits, the last of them 1", "0".repeat(119) + "1", 120, 2);
    }

    /** "3: (..) bits of the text that are 1 are behind all that were taken into v (the index of the first such one)". */
    private static void bitsBehindAllTaken() {
        faultIs("the sixteenth bit is taken", "1".repeat(16), NOT_FOUND, NOT_FOUND);
        faultIs("the seventeenth is not", "1".repeat(17), 16, 3);
        faultIs("the first of some", "1".repeat(16) + "00101", 18, 3);
        faultIs("bits 0 behind", "1".repeat(16) + "0".repeat(104), NOT_FOUND, NOT_FOUND);
        faultIs("the last of 120", "1".repeat(16) + "0".repeat(103) + "1", 119, 3);
        // three more bits are taken for a, and for e, whose three bits wait
        for (String letter : new String[] {"00011011", "10001101"}) {
            faultIs(letter + ": the nineteenth is taken", letter + "0".repeat(10) + "1", NOT_FOUND, NOT_FOUND);
            faultIs(letter + ": the twentieth is not", letter + "0".repeat(11) + "1", 19, 3);
        }
        // eight more for forty times a
        faultIs("forty: the twenty-fourth is taken", "00000000110010111" + "0".repeat(6) + "1", NOT_FOUND, NOT_FOUND);
        faultIs("forty: the twenty-fifth is not", "00000000110010111" + "0".repeat(7) + "1", 24, 3);
    }

    /** "the first of these that there is". */
    private static void theFirstReasonThatThereIs() {
        faultIs("1 ahead of 2", "0000x", 4, 1);
        faultIs("1 ahead of 2, at the start", "x0000", 0, 1);
        faultIs("1 ahead of 3, behind its place", "1".repeat(17) + "0x", 18, 1);
        faultIs("1 ahead of 3, before its place", "1111x" + "1".repeat(13), 4, 1);
        faultIs("2, though bits 1 are behind all taken", "0".repeat(24) + "1", 25, 2);
        faultIs("3 alone", "1".repeat(17), 16, 3);
    }

    private static void faultIs(String what, String text, int place, int reason) {
        LearningSpans x = typed(text);
        due(what + ": place", x.fault(0), place);
        due(what + ": reason", x.fault(1), reason);
        due(what + ": told if there is no fault", x.told(0) == NOT_POSSIBLE ? 1 : 0, reason == NOT_FOUND ? 0 : 1);
    }

    // ---- changes and errors

    /** One of each kind of change; each of them is possible behind the letters a b c. */
    private static void change(LearningSpans x, int kind) {
        switch (kind) {
            case 0: x.put(3); break;
            case 1: x.end(); break;
            case 2: x.begin(); break;
            case 3: x.set(1, 50); break;
            case 4: x.drop(2); break;
            default: x.mend(1, 7);
        }
    }

    /** "The changes are the calls of put, end, begin, set, drop and mend", "everything before it but the text". */
    private static void eachKindOfChange() {
        for (int kind = 0; kind <= 5; kind++) {
            LearningSpans x = with(0, 1, 2);
            x.type('1');
            change(x, kind);
            due("change " + kind + ": four states", x.count(8), 4);
            x.type('x');
            due("undo() of change " + kind, x.undo(), 3);
            alike("undo() of change " + kind, x, with(0, 1, 2));
            due("undo() of change " + kind + ": the text stays", x.count(9), 2);
            due("undo() of change " + kind + ": its characters too", x.fault(0), 1);
        }
    }

    /** "at most 4 states", "if there are 5 states then, the oldest one is dropped": by each kind of change. */
    private static void aFifthChangeDropsTheOldest() {
        for (int kind = 0; kind <= 5; kind++) {
            LearningSpans x = with(0, 1, 2);
            x.mend(0, 6);
            due("four changes", x.count(8), 4);
            change(x, kind);
            due("a fifth one, kind " + kind, x.count(8), 4);
            int[][] before = {{6, 1, 2}, {0, 1, 2}, {0, 1}, {0}};
            for (int back = 0; back < before.length; back++) {
                due("undo() " + back + " behind five", x.undo(), 3 - back);
                alike("undo() " + back + " behind five", x, with(before[back]));
            }
            due("the state ahead of the first is gone", x.undo(), NOT_POSSIBLE);
        }
    }

    private static void manyChangesKeepFour() {
        LearningSpans x = new LearningSpans();
        for (int letter = 0; letter < 40; letter++) {
            x.put(letter % 8);
            due("states behind " + (letter + 1), x.count(8), Math.min(4, letter + 1));
        }
        for (int left = 3; left >= 0; left--) {
            due("undo() behind forty", x.undo(), left);
        }
        due("letters four changes ago", x.count(0), 36);
        due("undo() behind four", x.undo(), NOT_POSSIBLE);
    }

    /** An undo is no change: behind it the one before is undone, and changes are recorded again. */
    private static void undoOfNone() {
        LearningSpans x = new LearningSpans();
        due("undo() of none", x.undo(), NOT_POSSIBLE);
        x.put(0);
        due("undo() of one", x.undo(), 0);
        due("undo() of none again", x.undo(), NOT_POSSIBLE);
        due("states", x.count(8), 0);
        x.put(5);
        x.put(6);
        due("undo() of two", x.undo(), 1);
        x.put(7);
        due("states behind undo() and put()", x.count(8), 2);
        x.undo();
        alike("undo() of the put behind undo()", x, with(5));
    }

    public static void main(String[] arguments) {
        totalAtTheBoundAndAboveIt();
        totalAtAHighBoundAndAboveIt();
        halvedOnceEvenIfStillAbove();
        halvesOfEvenAndOddCounts();
        theEndLearnsNothing();
        belowTheFirstAndTheLast();
        anEmptyMessage();
        fortyLettersAndOneMore();
        nothingIsPutIntoAnEndedOne();
        lastBitsByTheLowNumber();
        bitsThatWait();
        bitsBehindTheLastAreZero();
        nothingIsBehindTheLastBitOfAShorterRow();
        numbersAtTheEndsOfTheParts();
        endBehindTheFortiethLetter();
        breakingOffAtAFortyFirstLetter();
        readingByTheSettings();
        rangesOfTheSettings();
        settingBeginsAMessage();
        emptyTextFullTextAndOneMore();
        strangeCharacters();
        breakingOff();
        bitsBehindAllTaken();
        theFirstReasonThatThereIs();
        eachKindOfChange();
        aFifthChangeDropsTheOldest();
        manyChangesKeepFour();
        undoOfNone();
        Check.finish();
    }
}
