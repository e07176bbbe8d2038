/** Messages whose low or high number comes to stand exactly at an edge that the document names. */
public final class SpanEdgesTest {
    // pace, bound, letters; 8 is the end
    private static final String[][] RUNS = {
        {"1", "400", "5100"}, {"1", "400", "4713"}, {"1", "400", "6324"}, // low 32768
        {"1", "400", "462"}, {"1", "400", "4235"}, {"2", "400", "72"}, // low 16384, high below 49152
        {"43", "37", "624466"}, {"32", "220", "415144"}, {"13", "291", "04144"}, // high 49152, low above 16384
        {"1", "400", "6323"}, {"2", "400", "758"}, {"2", "400", "0761"}, // high 49151
        {"7", "400", "0604"}, {"30", "400", "706"}, // high 32768
        {"1", "400", "4712"}, {"2", "400", "608"}, // high 32767
        {"18", "400", "428"}, {"18", "400", "148"}, {"18", "400", "348"}, // low 16384 ahead of the last bits
    };

    private SpanEdgesTest() {
    }

    private static void alike(String run, LearningSpans x, PlainModel y) {
        for (int what = 0; what <= 12; what++) {
            Check.due(run + ": count(" + what + ")", x.count(what), y.count(what));
        }
        for (int place = 0; place <= x.count(1); place++) {
            Check.due(run + ": bit(" + place + ")", x.bit(place), y.bit(place));
        }
        for (int what = 0; what <= 2; what++) {
            Check.due(run + ": readBack(" + what + ")", x.readBack(what), y.readBack(what));
        }
    }

    private static void runOf(int pace, int bound, String letters) {
        LearningSpans x = new LearningSpans();
        PlainModel y = new PlainModel();
        x.set(0, pace);
        y.set(0, pace);
        x.set(1, bound);
        y.set(1, bound);
        for (int i = 0; i < letters.length(); i++) {
            int letter = letters.charAt(i) - '0';
            String run = pace + " " + bound + " " + letters + " at " + i;
            Check.due(run, letter == 8 ? x.end() : x.put(letter), letter == 8 ? y.end() : y.put(letter));
            alike(run, x, y);
        }
    }

    /** 36408 is the lowest number of the part of the letter 5; one less is of the letter 4. */
    private static void lowestNumberOfALetter() {
        toldIs("1000111000111000" + "1111011", 5);
        toldIs("1000111000111000" + "11000011000", 5);
        Check.due("36407, read", firstRead(36407), 4);
        Check.due("36408, read", firstRead(36408), 5);
    }

    private static void toldIs(String row, int first) {
        LearningSpans x = new LearningSpans();
        for (int i = 0; i < row.length(); i++) {
            x.type(row.charAt(i));
        }
        Check.due(row + " has no fault", x.fault(1), -4);
        Check.due(row + " tells", x.told(0), first);
    }

    /** The first letter of sixteen bits, behind which such bits come that the text has no fault. */
    private static int firstRead(int number) {
        for (int behind = 0; behind < 4096; behind++) {
            LearningSpans x = new LearningSpans();
            for (int place = 15; place >= 0; place--) {
                x.type('0' + (number >> place & 1));
            }
            for (int place = 11; place >= 0; place--) {
                x.type('0' + (behind >> place & 1));
            }
            if (x.fault(1) == -4) {
                return x.told(0);
            }
        }
        return -1;
    }

    public static void main(String[] arguments) {
        for (String[] run : RUNS) {
            runOf(Integer.parseInt(run[0]), Integer.parseInt(run[1]), run[2]);
        }
        lowestNumberOfALetter();
        Check.finish();
    }
}
