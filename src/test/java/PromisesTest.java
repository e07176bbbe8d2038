/** Each promise of the document: ordinary calls, the edges that it names, and wrong arguments. */
public final class PromisesTest extends Cases {
    private PromisesTest() {
    }

    private static void promise1NewObject() {
        LearningSpans x = new LearningSpans();
        int[] first = {0, 0, 0, 0, 65535, 9, 0, 0, 0, 0, 8, 400, 0};
        for (int what = 0; what < first.length; what++) {
            due("new: count(" + what + ")", x.count(what), first[what]);
        }
        for (int letter = 0; letter <= 8; letter++) {
            due("new: count of " + letter, x.letterOf(letter, 0), 1);
            due("new: below " + letter, x.letterOf(letter, 1), letter);
            due("new: how often " + letter, x.letterOf(letter, 2), 0);
        }
        due("new: letter(0)", x.letter(0), NOT_FOUND);
        due("new: bit(0)", x.bit(0), NOT_FOUND);
        due("new: cost(0)", x.cost(0), NOT_FOUND);
        due("new: undo()", x.undo(), NOT_POSSIBLE);
        due("new: clearText()", x.clearText(), 0);
    }

    private static void promise2Put() {
        LearningSpans x = new LearningSpans();
        due("put(-1)", x.put(-1), INVALID);
        due("put(8)", x.put(8), INVALID);
        due("put(least)", x.put(LEAST), INVALID);
        due("put(most)", x.put(MOST), INVALID);
        due("after wrong puts: states", x.count(8), 0);
        // 29127 to 36407 lies about the middle: three bits wait, none is sure
        due("put(4)", x.put(4), 0);
        due("put(4): waiting", x.count(2), 3);
        due("put(4): low", x.count(3), 3640);
        due("put(4): high", x.count(4), 61887);
        due("put(4): its count", x.letterOf(4, 0), 9);
        due("put(4): total", x.count(5), 17);
        due("put(4): letters", x.count(0), 1);
        LearningSpans y = new LearningSpans();
        // 0 to 7280: three bits are sure
        due("put(0)", y.put(0), 3);
        same("put(0)", bits(y), "000");
        due("put(0): low", y.count(3), 0);
        due("put(0): high", y.count(4), 58247);
        y.end();
        due("put when ended", y.put(0), NOT_POSSIBLE);
        due("wrong put when ended", y.put(8), INVALID);
        due("letters when ended", y.count(0), 1);
        putsAtTheLimit();
        halvings();
    }

    private static void putsAtTheLimit() {
        LearningSpans x = new LearningSpans();
        for (int i = 0; i < 39; i++) {
            x.put(i % 8);
        }
        Check.holds("fortieth put", x.put(5) >= 0);
        due("forty-first put", x.put(5), LIMIT);
        due("wrong forty-first put", x.put(9), INVALID);
        due("letters", x.count(0), 40);
        x.end();
        due("forty-first put when ended", x.put(5), NOT_POSSIBLE);
        due("letter 40 when ended", x.letter(40), NOT_FOUND);
    }

    private static void halvings() {
        LearningSpans x = by(23, 32);
        x.put(1);
        due("total at its bound", x.count(5), 32);
        due("total at its bound: halvings", x.count(6), 0);
        x.put(2);
        // 1 24 24 1 1 1 1 1 1 are 55; half of each and 1 more, down
        due("total above its bound", x.count(5), 31);
        due("halved once", x.count(6), 1);
        due("half of 24", x.letterOf(2, 0), 12);
        due("half of 1", x.letterOf(8, 0), 1);
        LearningSpans y = by(64, 32);
        y.put(0);
        due("still above the bound, halved once", y.count(5), 41);
        due("halvings", y.count(6), 1);
        y.put(0);
        due("the next put halves again", y.count(6), 2);
        due("half of 33 and 64", y.letterOf(0, 0), 49);
    }

    private static void promise3End() {
        LearningSpans x = new LearningSpans();
        // 58254 to 65535 becomes 7280 to 65535 behind three bits 1: low is below 16384, so 0 and then 1
        due("end() of nothing", x.end(), 5);
        same("end() of nothing", bits(x), "11101");
        due("ended", x.count(7), 1);
        due("waiting when ended", x.count(2), 0);
        due("end() again", x.end(), NOT_POSSIBLE);
        due("end() again: states", x.count(8), 1);
        due("count of the end", x.letterOf(8, 0), 1);
        due("dearest of none", x.count(12), 0);
        LearningSpans y = with(4);
        due("end() after bits that wait", y.end(), 8);
        same("end() after bits that wait", bits(y), "10001101");
        due("end(): low", y.count(3), 8936);
        due("end(): high", y.count(4), 36351);
        due("end(): total", y.count(5), 17);
        due("end(): letters", y.count(0), 1);
        LearningSpans z = new LearningSpans();
        for (int i = 0; i < 40; i++) {
            z.put(0);
        }
        // 14464 before the last bits
        due("end() of forty", z.end(), 17);
        same("end() of forty", bits(z), "00000000110010111");
        endByTheLowNumber();
    }

    /** The last bits are those that wait, at least one, and so the other one than the end writes. */
    private static void endByTheLowNumber() {
        int seen = 0;
        for (int letter = 0; letter < 8; letter++) {
            for (int other = 0; other < 8; other++) {
                LearningSpans x = with(letter, other);
                x.end();
                boolean above = x.count(3) >= 16384;
                seen += above ? 1 : 0;
                due("last bit of " + letters(x), x.bit(x.count(1) - 1), above ? 0 : 1);
            }
        }
        Check.holds("both kinds of last bits were seen", seen > 0 && seen < 64);
    }

    private static void promise4Begin() {
        LearningSpans x = new LearningSpans();
        due("begin() after nothing", x.begin(), 0);
        due("begin() is a change", x.count(8), 1);
        x.set(0, 3);
        x.set(1, 77);
        x.put(2);
        x.put(3);
        x.end();
        x.type('1');
        due("begin() after two", x.begin(), 2);
        alike("begun again", x, by(3, 77));
        due("the text stays", x.count(9), 1);
        Check.holds("put after begin()", x.put(1) >= 0);
    }

    private static void promise5Drop() {
        LearningSpans x = with(4, 0, 7);
        due("drop(0)", x.drop(0), INVALID);
        due("drop(-1)", x.drop(-1), INVALID);
        due("drop(41)", x.drop(41), INVALID);
        due("drop(least)", x.drop(LEAST), INVALID);
        due("drop(4) of three", x.drop(4), NOT_POSSIBLE);
        due("drop(40) of three", x.drop(40), NOT_POSSIBLE);
        due("states after wrong drops", x.count(8), 3);
        LearningSpans two = with(4, 0);
        due("drop(1)", x.drop(1), two.count(1));
        alike("drop(1)", x, two);
        x.end();
        due("drop(1) when ended", x.drop(1), 0);
        alike("drop(1) when ended", x, with(4));
        due("drop(1) of one", x.drop(1), 0);
        alike("drop(1) of one", x, new LearningSpans());
        due("drop(1) of none", x.drop(1), NOT_POSSIBLE);
        due("wrong drop of none", x.drop(0), INVALID);
        LearningSpans all = longMessage();
        due("drop(40)", all.drop(40), 0);
        alike("drop(40)", all, by(1, 2000));
        dropTakesHalvingsBack();
    }

    private static void dropTakesHalvingsBack() {
        LearningSpans x = by(23, 32);
        x.put(1);
        x.put(2);
        x.drop(1);
        due("halvings after drop(1)", x.count(6), 0);
        due("total after drop(1)", x.count(5), 32);
    }

    private static void promise6Mend() {
        LearningSpans x = with(4, 0, 7);
        due("mend(-1, 0)", x.mend(-1, 0), INVALID);
        due("mend(0, -1)", x.mend(0, -1), INVALID);
        due("mend(0, 8)", x.mend(0, 8), INVALID);
        due("mend(3, 8)", x.mend(3, 8), INVALID);
        due("mend(3, 0)", x.mend(3, 0), NOT_POSSIBLE);
        due("mend(most, 0)", x.mend(MOST, 0), NOT_POSSIBLE);
        due("states after wrong mends", x.count(8), 3);
        LearningSpans mended = with(5, 0, 7);
        due("mend(0, 5)", x.mend(0, 5), mended.count(1));
        alike("mend(0, 5)", x, mended);
        mended = with(5, 0, 1);
        due("mend(2, 1)", x.mend(2, 1), mended.count(1));
        alike("mend(2, 1)", x, mended);
        x.end();
        mended = with(5, 6, 1);
        due("mend(1, 6) when ended", x.mend(1, 6), mended.end());
        alike("mend(1, 6) when ended", x, mended);
        due("mend(1, 6) again", x.mend(1, 6), mended.count(1));
        due("mending to the same is a change", x.undo(), 3);
        alike("undo of mending to the same", x, mended);
        due("mend of none", new LearningSpans().mend(0, 0), NOT_POSSIBLE);
    }

    private static void promise7Set() {
        LearningSpans x = with(1, 2);
        int[][] wrong = {{-1, 8}, {2, 8}, {2, 400}, {0, 0}, {0, 65}, {0, -8}, {1, 31}, {1, 2001}, {LEAST, 40},
            {MOST, 40}, {0, MOST}, {1, LEAST}};
        for (int[] pair : wrong) {
            due("set(" + pair[0] + ", " + pair[1] + ")", x.set(pair[0], pair[1]), INVALID);
        }
        due("letters after wrong sets", x.count(0), 2);
        due("states after wrong sets", x.count(8), 2);
        due("set(0, 1)", x.set(0, 1), 8);
        due("letters after set", x.count(0), 0);
        due("bits after set", x.count(1), 0);
        due("total after set", x.count(5), 9);
        due("set(0, 64)", x.set(0, 64), 1);
        due("set(1, 32)", x.set(1, 32), 400);
        due("set(1, 2000)", x.set(1, 2000), 32);
        due("set(1, 2000) again", x.set(1, 2000), 2000);
        due("states after sets", x.count(8), 4);
        x.put(3);
        due("count by the pace", x.letterOf(3, 0), 65);
        x.end();
        x.set(0, 7);
        due("not ended after set", x.count(7), 0);
        due("pace", x.count(10), 7);
        due("bound", x.count(11), 2000);
    }

    private static void promise8Letter() {
        LearningSpans x = with(6, 0, 3);
        due("letter(-1)", x.letter(-1), INVALID);
        due("letter(least)", x.letter(LEAST), INVALID);
        due("letter(0)", x.letter(0), 6);
        due("letter(1)", x.letter(1), 0);
        due("letter(2)", x.letter(2), 3);
        due("letter(3)", x.letter(3), NOT_FOUND);
        due("letter(most)", x.letter(MOST), NOT_FOUND);
        x.end();
        due("letter(3) when ended", x.letter(3), NOT_FOUND);
        x.drop(1);
        due("letter(2) after drop(1)", x.letter(2), NOT_FOUND);
        due("letter(39) of forty", longMessage().letter(39), 7);
        due("letter(40) of forty", longMessage().letter(40), NOT_FOUND);
    }

    private static void promise9Bit() {
        LearningSpans x = with(4);
        due("bit(-1)", x.bit(-1), INVALID);
        due("bit(least)", x.bit(LEAST), INVALID);
        due("bit(0) while bits wait", x.bit(0), NOT_FOUND);
        x.end();
        due("bit(0)", x.bit(0), 1);
        due("bit(1)", x.bit(1), 0);
        due("bit(7)", x.bit(7), 1);
        due("bit(8)", x.bit(8), NOT_FOUND);
        due("bit(most)", x.bit(MOST), NOT_FOUND);
    }

    private static void promise10LetterOf() {
        LearningSpans x = with(4, 0, 4);
        int[][] wrong = {{-1, 0}, {9, 0}, {0, -1}, {0, 4}, {LEAST, 0}, {MOST, 3}, {0, LEAST}, {8, MOST}};
        for (int[] pair : wrong) {
            due("letterOf(" + pair[0] + ", " + pair[1] + ")", x.letterOf(pair[0], pair[1]), INVALID);
        }
        int[] counts = {9, 1, 1, 1, 17, 1, 1, 1, 1};
        int below = 0;
        for (int letter = 0; letter <= 8; letter++) {
            due("count of " + letter, x.letterOf(letter, 0), counts[letter]);
            due("below " + letter, x.letterOf(letter, 1), below);
            due("how often " + letter, x.letterOf(letter, 2), letter == 4 ? 2 : letter == 0 ? 1 : 0);
            below += counts[letter];
        }
        whatPuttingWouldWrite(x);
        LearningSpans ended = with(4, 0, 4);
        ended.end();
        due("what a letter would write when ended", ended.letterOf(0, 3), NOT_POSSIBLE);
        due("what the end would write when ended", ended.letterOf(8, 3), NOT_POSSIBLE);
        due("wrong letter when ended", ended.letterOf(9, 3), INVALID);
        due("how often the end, ended", ended.letterOf(8, 2), 0);
        due("count when ended", ended.letterOf(4, 0), 17);
        due("below the end when ended", ended.letterOf(8, 1), 32);
        LearningSpans forty = longMessage();
        Check.holds("what a letter would write, were there room", forty.letterOf(0, 3) > 0);
        due("what the end of forty would write", forty.letterOf(8, 3), forty.end() - 131);
    }

    private static void whatPuttingWouldWrite(LearningSpans x) {
        for (int letter = 0; letter < 8; letter++) {
            due("what " + letter + " would write", x.letterOf(letter, 3), with(4, 0, 4).put(letter));
        }
        due("what the end would write", x.letterOf(8, 3), with(4, 0, 4).end() - x.count(1));
        alike("after asking", x, with(4, 0, 4));
        due("states after asking", x.count(8), 3);
        due("what the end would write after 4", with(4).letterOf(8, 3), 8);
        due("what 0 would write at first", new LearningSpans().letterOf(0, 3), 3);
        due("what 4 would write at first", new LearningSpans().letterOf(4, 3), 0);
    }

    private static void promise11Count() {
        LearningSpans x = with(4, 0);
        due("count(-1)", x.count(-1), INVALID);
        due("count(13)", x.count(13), INVALID);
        due("count(least)", x.count(LEAST), INVALID);
        due("count(most)", x.count(MOST), INVALID);
        type(x, "10 1");
        due("letters", x.count(0), 2);
        due("not ended", x.count(7), 0);
        due("states", x.count(8), 2);
        due("length of the text", x.count(9), 4);
        x.end();
        due("ended", x.count(7), 1);
        LearningSpans y = by(5, 1234);
        due("pace", y.count(10), 5);
        due("bound", y.count(11), 1234);
        LearningSpans z = longMessage();
        int most = 0;
        for (int place = 0; place < 40; place++) {
            most = Math.max(most, z.cost(place));
        }
        due("the letter that wrote most", z.count(12), most);
        due("it wrote", most, 6);
        LearningSpans first = with(0, 0, 0, 0);
        due("the first wrote most", first.count(12), 3);
        first.end();
        due("the end is none of the letters", first.count(12), 3);
        first.drop(4);
        due("without letters", first.count(12), 0);
        due("halvings after begin()", halvingsAfterBegin(), 0);
    }

    private static int halvingsAfterBegin() {
        LearningSpans x = by(64, 32);
        x.put(0);
        x.begin();
        return x.count(6);
    }

    private static void promise12Cost() {
        LearningSpans x = new LearningSpans();
        int[] letters = {4, 4, 0, 7, 0, 0, 3};
        int[] written = new int[letters.length];
        for (int i = 0; i < letters.length; i++) {
            written[i] = x.put(letters[i]);
        }
        due("cost(-1)", x.cost(-1), INVALID);
        due("cost(least)", x.cost(LEAST), INVALID);
        for (int i = 0; i < letters.length; i++) {
            due("cost(" + i + ")", x.cost(i), written[i]);
        }
        due("cost(7)", x.cost(7), NOT_FOUND);
        due("cost(most)", x.cost(MOST), NOT_FOUND);
        x.end();
        due("cost of the end", x.cost(7), NOT_FOUND);
        due("cost(6) when ended", x.cost(6), written[6]);
        x.mend(0, 0);
        due("cost(0) mended", x.cost(0), 3);
        x.drop(3);
        due("cost(4) dropped", x.cost(4), NOT_FOUND);
        due("cost(39) of forty", longMessage().cost(39) >= 0 ? 1 : 0, 1);
        due("cost(40) of forty", longMessage().cost(40), NOT_FOUND);
    }

    private static void promise13BitsBy() {
        LearningSpans x = longMessage();
        due("bitsBy(0)", x.bitsBy(0), INVALID);
        due("bitsBy(65)", x.bitsBy(65), INVALID);
        due("bitsBy(least)", x.bitsBy(LEAST), INVALID);
        due("bitsBy(most)", x.bitsBy(MOST), INVALID);
        due("bitsBy(1), not ended", x.bitsBy(1), 139);
        x.end();
        due("bitsBy(1), ended", x.bitsBy(1), 139);
        for (int pace = 1; pace <= 64; pace += 9) {
            LearningSpans y = by(pace, 2000);
            for (int i = 0; i < 40; i++) {
                y.put(i % 8);
            }
            due("bitsBy(" + pace + ")", x.bitsBy(pace), y.end());
        }
        alikeAfterAsking(x);
        due("bitsBy of nothing", new LearningSpans().bitsBy(64), 5);
    }

    private static void alikeAfterAsking(LearningSpans x) {
        LearningSpans y = longMessage();
        y.end();
        alike("after bitsBy", x, y);
        due("states after bitsBy", x.count(8), y.count(8));
    }

    private static void promise14BestPace() {
        due("best pace for nothing: all are equal", new LearningSpans().bestPace(), 1);
        due("best pace for one letter: all are equal or dearer", with(0).bestPace(), lowestBest(with(0)));
        LearningSpans same = new LearningSpans();
        for (int i = 0; i < 40; i++) {
            same.put(0);
        }
        due("bits for forty alike by 63", same.bitsBy(63), 13);
        due("bits for forty alike by 64", same.bitsBy(64), 14);
        due("best pace for forty alike", same.bestPace(), 63);
        due("the same when ended", same.end() > 0 ? same.bestPace() : 0, 63);
        due("the pace stays", same.count(10), 8);
        due("best pace for 1 0 0", with(1, 0, 0).bestPace(), 2);
        LearningSpans nine = by(8, 32);
        for (int i = 0; i < 9; i++) {
            nine.put(0);
        }
        due("best pace for nine alike, soon halved", nine.bestPace(), 64);
        int[][] rows = {{0, 1, 2, 3, 4, 5, 6, 7}, {3, 3, 3, 2}, {7, 7, 0, 7, 7, 1}, {5, 2, 5, 2, 5, 2, 5, 2, 5}};
        for (int[] row : rows) {
            due("best pace", with(row).bestPace(), lowestBest(with(row)));
        }
    }

    private static int lowestBest(LearningSpans x) {
        int best = 64;
        for (int pace = 63; pace >= 1; pace--) {
            best = x.bitsBy(pace) <= x.bitsBy(best) ? pace : best;
        }
        return best;
    }

    private static void promise15ReadBack() {
        LearningSpans x = with(4, 0, 7, 7);
        due("readBack(-1)", x.readBack(-1), INVALID);
        due("readBack(3)", x.readBack(3), INVALID);
        due("readBack(least)", x.readBack(LEAST), INVALID);
        due("readBack(most)", x.readBack(MOST), INVALID);
        x.end();
        due("letters of an ended one", x.readBack(0), 4);
        due("an ended one is over", x.readBack(1), 1);
        due("letters alike of an ended one", x.readBack(2), 4);
        // no bits at all: bits 0, and so forty times the first letter
        LearningSpans none = new LearningSpans();
        due("letters of no bits", none.readBack(0), 40);
        due("no bits break off", none.readBack(1), 0);
        due("no bits: letters alike", none.readBack(2), 0);
        LearningSpans first = with(0, 0, 1);
        first.drop(1);
        due("not ended: letters", first.readBack(0), 40);
        due("not ended: letters alike", first.readBack(2), 2);
        // 4 has written nothing yet: bits 0 are read
        due("bits that wait are not read: letters alike", with(4).readBack(2), 0);
        LearningSpans forty = longMessage();
        forty.end();
        due("letters of forty, ended", forty.readBack(0), 40);
        due("forty, ended, are over", forty.readBack(1), 1);
        due("forty, ended: letters alike", forty.readBack(2), 40);
        due("readBack is no change", forty.count(8), 4);
    }

    private static void promise16Undo() {
        LearningSpans x = new LearningSpans();
        due("undo() of nothing", x.undo(), NOT_POSSIBLE);
        x.put(1);
        x.put(2);
        x.end();
        x.mend(0, 5);
        due("four states", x.count(8), 4);
        x.type('0');
        due("undo() of mend", x.undo(), 3);
        LearningSpans ended = with(1, 2);
        ended.end();
        alike("undo() of mend", x, ended);
        due("undo() of end", x.undo(), 2);
        alike("undo() of end", x, with(1, 2));
        due("undo() of put", x.undo(), 1);
        alike("undo() of put", x, with(1));
        due("undo() of the first", x.undo(), 0);
        alike("undo() of the first", x, new LearningSpans());
        due("undo() of none", x.undo(), NOT_POSSIBLE);
        due("the text stays", x.count(9), 1);
        oldestIsDropped();
        undoOfTheOthers();
        noChanges();
    }

    private static void oldestIsDropped() {
        LearningSpans x = with(1, 2, 3, 4, 5, 6);
        due("states after six", x.count(8), 4);
        for (int left = 3; left >= 0; left--) {
            due("undo() after six", x.undo(), left);
        }
        alike("the oldest of four", x, with(1, 2));
        due("undo() behind the oldest", x.undo(), NOT_POSSIBLE);
        x.put(7);
        due("states after another", x.count(8), 1);
        x.undo();
        alike("undo() of another", x, with(1, 2));
    }

    private static void undoOfTheOthers() {
        LearningSpans x = with(1, 2, 3);
        x.end();
        LearningSpans ended = with(1, 2, 3);
        ended.end();
        x.begin();
        x.undo();
        alike("undo() of begin", x, ended);
        x.drop(2);
        x.undo();
        alike("undo() of drop", x, ended);
        x.set(0, 30);
        x.set(1, 300);
        x.undo();
        alike("undo() of the second set", x, by(30, 400));
        x.undo();
        alike("undo() of the first set", x, ended);
    }

    private static void noChanges() {
        LearningSpans x = with(0);
        x.type('1');
        x.write();
        x.clearText();
        x.fault(0);
        x.told(0);
        x.bestPace();
        x.bitsBy(3);
        x.readBack(0);
        x.put(8);
        x.drop(2);
        x.mend(1, 1);
        x.set(3, 3);
        due("states after calls that are no changes", x.count(8), 1);
        x.end();
        x.end();
        x.put(1);
        due("states after errors when ended", x.count(8), 2);
    }

    private static void promise17Type() {
        LearningSpans x = new LearningSpans();
        due("type(31)", x.type(31), INVALID);
        due("type(127)", x.type(127), INVALID);
        due("type(-1)", x.type(-1), INVALID);
        due("type(least)", x.type(LEAST), INVALID);
        due("type(most)", x.type(MOST), INVALID);
        due("type(32)", x.type(32), 1);
        due("type(126)", x.type(126), 2);
        for (int length = 3; length <= 120; length++) {
            due("type(49)", x.type(49), length);
        }
        due("type(49) at 120", x.type(49), LIMIT);
        due("type(31) at 120", x.type(31), INVALID);
        due("length", x.count(9), 120);
        due("typing is no change", x.count(8), 0);
    }

    private static void promise18ClearText() {
        LearningSpans x = new LearningSpans();
        due("clearText() of nothing", x.clearText(), 0);
        type(x, "1x1");
        due("clearText()", x.clearText(), 3);
        due("clearText() again", x.clearText(), 0);
        due("length", x.count(9), 0);
        due("the strange character is gone", x.fault(1), 2);
    }

    private static void promise19Write() {
        LearningSpans x = with(4, 0, 7);
        type(x, "xyz and more than the bits");
        x.end();
        due("write()", x.write(), x.count(1));
        due("length", x.count(9), x.count(1));
        due("written: no fault", x.fault(0), NOT_FOUND);
        due("written: told(0)", x.told(0), 4);
        due("written: told(2)", x.told(2), 7);
        x.begin();
        due("write() of nothing", x.write(), 0);
        due("length of nothing", x.count(9), 0);
        writeAtTheLimit();
    }

    private static void writeAtTheLimit() {
        LearningSpans x = longMessage();
        type(x, "101");
        due("write() of 131", x.write(), LIMIT);
        due("the text stays", x.count(9), 3);
        due("bits of 36 letters", x.drop(4), 119);
        due("two bits more", x.put(0), 2);
        due("write() of 121", x.write(), LIMIT);
        due("the text still stays", x.count(9), 3);
        x.undo();
        due("one bit more", x.put(1), 1);
        due("write() of 120", x.write(), 120);
        due("the text is new", x.count(9), 120);
        due("another character", x.type('0'), LIMIT);
    }

    private static void promise20Fault() {
        LearningSpans x = new LearningSpans();
        due("fault(-1)", x.fault(-1), INVALID);
        due("fault(2)", x.fault(2), INVALID);
        due("fault(least)", x.fault(LEAST), INVALID);
        due("fault(most)", x.fault(MOST), INVALID);
        faultIs("the empty text", "", 0, 2);
        faultIs("bits 0", "00000", 5, 2);
        faultIs("120 bits 0", "0".repeat(120), 120, 2);
        faultIs("a strange one first", "2", 0, 1);
        faultIs("a strange one ahead of breaking off", "0000x00y", 4, 1);
        faultIs("a space", "1110 1", 4, 1);
        faultIs("beside 0", "1110/", 4, 1);
        faultIs("a strange one at the end of 120", "1".repeat(119) + "~", 119, 1);
        faultIs("a strange one ahead of bits behind", "1".repeat(20) + "x", 20, 1);
        faultIs("the end", "1111", NOT_FOUND, NOT_FOUND);
        faultIs("the end and sixteen bits in all", "1111111111111111", NOT_FOUND, NOT_FOUND);
        faultIs("a bit behind sixteen", "11111111111111111", 16, 3);
        faultIs("the first bit 1 behind", "11111111111111110001011", 19, 3);
        faultIs("bits 0 behind", "1111111111111111000", NOT_FOUND, NOT_FOUND);
        faultIs("bits behind, at the last place", "1".repeat(8) + "0".repeat(111) + "1", 119, 3);
        // 0 takes three bits more into the number before the end is read
        LearningSpans y = with(0);
        y.end();
        String row = bits(y) + "0".repeat(19 - y.count(1));
        faultIs("behind 0 and the end, taken", row.substring(0, 18) + "1", NOT_FOUND, NOT_FOUND);
        faultIs("behind 0 and the end, not taken", row + "1", 19, 3);
        faultBySettings();
    }

    private static void faultIs(String what, String text, int place, int reason) {
        LearningSpans x = new LearningSpans();
        type(x, text);
        due("place of the fault: " + what, x.fault(0), place);
        due("reason of the fault: " + what, x.fault(1), reason);
        due("told(0): " + what + (reason == NOT_FOUND ? " told" : " not told"),
            x.told(0) == NOT_POSSIBLE ? 0 : 1, reason == NOT_FOUND ? 1 : 0);
        due("wrong told: " + what, x.told(-1), INVALID);
    }

    /** The text is read by the settings as they are, not by the message as it is. */
    private static void faultBySettings() {
        LearningSpans x = with(4, 0, 7);
        x.end();
        x.write();
        due("told(1)", x.told(1), 0);
        x.put(1);
        x.begin();
        x.put(6);
        due("told(1) after another message", x.told(1), 0);
        due("no fault after another message", x.fault(0), NOT_FOUND);
        LearningSpans slow = by(1, 32);
        for (int i = 0; i < 12; i++) {
            slow.put(0);
        }
        slow.end();
        slow.write();
        due("told(11)", slow.told(11), 0);
        due("told(12)", slow.told(12), NOT_FOUND);
        slow.set(0, 64);
        Check.holds("another pace tells other letters", slow.told(11) != 0 || slow.told(12) != NOT_FOUND);
        slow.undo();
        due("told(11) after undo()", slow.told(11), 0);
        due("told(12) after undo()", slow.told(12), NOT_FOUND);
    }

    private static void promise21Told() {
        LearningSpans x = with(3, 5, 5, 0, 2);
        x.end();
        x.write();
        x.begin();
        int[] letters = {3, 5, 5, 0, 2};
        for (int place = 0; place < letters.length; place++) {
            due("told(" + place + ")", x.told(place), letters[place]);
        }
        due("told(5)", x.told(5), NOT_FOUND);
        due("told(most)", x.told(MOST), NOT_FOUND);
        due("told(-1)", x.told(-1), INVALID);
        due("told(least)", x.told(LEAST), INVALID);
        x.type('x');
        due("told(0) with a fault", x.told(0), NOT_POSSIBLE);
        due("told(99) with a fault", x.told(99), NOT_POSSIBLE);
        due("told(-1) with a fault", x.told(-1), INVALID);
        LearningSpans none = new LearningSpans();
        due("told(0) of the empty text", none.told(0), NOT_POSSIBLE);
        type(none, "1111");
        due("told(0) of the end alone", none.told(0), NOT_FOUND);
        toldForty();
    }

    /** Forty letters and the end are told; a forty-first letter is not. */
    private static void toldForty() {
        LearningSpans x = new LearningSpans();
        for (int i = 0; i < 40; i++) {
            x.put(i < 20 ? 0 : 1);
        }
        x.end();
        x.write();
        due("told(39)", x.told(39), 1);
        due("told(40)", x.told(40), NOT_FOUND);
        due("no fault", x.fault(1), NOT_FOUND);
    }

    public static void main(String[] arguments) {
        promise1NewObject();
        promise2Put();
        promise3End();
        promise4Begin();
        promise5Drop();
        promise6Mend();
        promise7Set();
        promise8Letter();
        promise9Bit();
        promise10LetterOf();
        promise11Count();
        promise12Cost();
        promise13BitsBy();
        promise14BestPace();
        promise15ReadBack();
        promise16Undo();
        promise17Type();
        promise18ClearText();
        promise19Write();
        promise20Fault();
        promise21Told();
        Check.finish();
    }
}
