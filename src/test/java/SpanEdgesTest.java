/** Messages whose low or high number comes to stand exactly at an edge that the document names. */
public final class SpanEdgesTest {
    // pace, bound, letters; 8 is the end
    private static final String[][] RUNS = {
        {"1", "400", "5100"}, {"1", "400", "4713"}, {"1", "400", "6324"}, // low 32768
        {"1", "400", "462"}, {"1", "400", "4235"}, {"2", "400", "72"}, // low 16384, high below 49152
        {"43", "37", "624466"}, {"32", "220", "415144"}, {"13", "291", "04144"}, // high 49152, low above 16384
        {"1", "400", "6323"}, {"2", "400", "758"}, {"2", "400", "0761"}, // high 49151
        {"7", "400", "0604"}, {"30", "400", "706"}, // high 32768
        {"1", "400", "4712"}, {"2", "400", "608"}, // high 32767
        {"18", "400", "428"}, {"18", "400", "148"}, {"18", "400", "348"}, // low 16384 ahead of the last bits
    };

    /**
     * The last of the letters narrows the span to just low and high; then it writes these bits,
     * and so many wait, and so the span stands then.
     */
    private record Edge(String what, int pace, int bound, String letters, int low, int high, String written,
        int waits, int lowThen, int highThen) {
    }

    private static final Edge[] EDGES = {
        new Edge("high 32767: the bit 0", 63, 400, "fbf", 20480, 32767, "011", 0, 16384, 65535),
        new Edge("high 32767, others", 20, 400, "ahf", 32112, 32767, "011111", 0, 23552, 65535),
        new Edge("high 32768, low below a quarter: none", 34, 400, "ccdc", 8262, 32768, "", 0, 8262, 32768),
        new Edge("high 32768, low below a quarter, bits wait: none", 64, 112, "cebb", 12517, 32768, "", 2, 12517, 32768),
        new Edge("high 32768, low above a quarter: one waits", 8, 400, "bdeed", 24369, 32768, "", 1, 15970, 32769),
        new Edge("low 32768: the bit 1", 63, 400, "fbg", 32768, 32959, "100000000", 0, 0, 49151),
        new Edge("low 32768, others", 20, 400, "ahg", 32768, 33423, "100000", 0, 0, 41983),
        new Edge("low 32767, high below three quarters: one waits", 12, 400, "gdh", 32767, 33438, "", 8, 32736, 54239),
        new Edge("low 32767, high above three quarters: none", 61, 32, "gaggg", 32767, 60145, "", 1, 32767, 60145),
        new Edge("low 16384, high below three quarters: one waits", 33, 400, "aaca", 16384, 41316, "", 3, 0, 49865),
        new Edge("low 16384, others", 64, 400, "ddad", 16384, 47435, "", 1, 0, 62103),
        new Edge("low 16384, high above three quarters: none", 42, 32, "edaaa", 16384, 49445, "", 4, 16384, 49445),
        new Edge("low 16383: none", 6, 400, "cecdc", 16383, 35719, "", 0, 16383, 35719),
        new Edge("low 16383, others", 56, 100, "gcccc", 16383, 42421, "", 0, 16383, 42421),
        new Edge("high 49151, low above a quarter: one waits", 64, 400, "ffgf", 18099, 49151, "", 4, 3430, 65535),
        new Edge("high 49151, low below a quarter: none", 22, 400, "eeee", 16373, 49151, "", 3, 16373, 49151),
        new Edge("high 49152: none", 55, 400, "ffcff", 23760, 49152, "", 3, 23760, 49152),
        new Edge("high 49152, others", 41, 120, "bhccc", 31148, 49152, "", 1, 31148, 49152)
    };

    private SpanEdgesTest() {
    }

    /** Worked out by the document's words from what the object tells ahead of the last letter. */
    private static void standsAt(Edge edge, LearningSpans x, int letter) {
        int r = x.count(4) - x.count(3) + 1;
        int below = x.letterOf(letter, 1);
        int above = below + x.letterOf(letter, 0);
        Check.due(edge.what + ", low", x.count(3) + r * below / x.count(5), edge.low);
        Check.due(edge.what + ", high", x.count(3) + r * above / x.count(5) - 1, edge.high);
    }

    private static void atTheEdge(Edge edge) {
        LearningSpans x = new LearningSpans();
        x.set(0, edge.pace);
        x.set(1, edge.bound);
        int last = edge.letters.length() - 1;
        for (int i = 0; i < last; i++) {
            x.put(edge.letters.charAt(i) - 'a');
        }
        int letter = edge.letters.charAt(last) - 'a';
        standsAt(edge, x, letter);
        int bits = x.count(1);
        Check.due(edge.what + ", asked", x.letterOf(letter, 3), edge.written.length());
        Check.due(edge.what + ", put", x.put(letter), edge.written.length());
        Check.due(edge.what + ", bits", x.count(1), bits + edge.written.length());
        for (int i = 0; i < edge.written.length(); i++) {
            Check.due(edge.what + ", bit " + i, x.bit(bits + i), edge.written.charAt(i) - '0');
        }
        Check.due(edge.what + ", waiting", x.count(2), edge.waits);
        Check.due(edge.what + ", low then", x.count(3), edge.lowThen);
        Check.due(edge.what + ", high then", x.count(4), edge.highThen);
    }

    private static void alike(String run, LearningSpans x, PlainModel y) {
        for (int what = 0; what <= 12; what++) {
            Check.due(run + ": count(" + what + ")", x.count(what), y.count(what));
        }
        for (int place = 0; place <= x.count(1); place++) {
            Check.due(run + ": bit(" + place + ")", x.bit(place), y.bit(place));
        }
        for (int what = 0; what <= 2; what++) {
            Check.due(run + ": readBack(" + what + ")", x.readBack(what), y.readBack(what));
        }
    }

    private static void runOf(int pace, int bound, String letters) {
        LearningSpans x = new LearningSpans();
        PlainModel y = new PlainModel();
        x.set(0, pace);
        y.set(0, pace);
        x.set(1, bound);
        y.set(1, bound);
        for (int i = 0; i < letters.length(); i++) {
            int letter = letters.charAt(i) - '0';
            String run = pace + " " + bound + " " + letters + " at " + i;
            Check.due(run, letter == 8 ? x.end() : x.put(letter), letter == 8 ? y.end() : y.put(letter));
            alike(run, x, y);
        }
    }

    /** 36408 is the lowest number of the part of the letter 5; one less is of the letter 4. */
    private static void lowestNumberOfALetter() {
        toldIs("1000111000111000" + "1111011", 5);
        toldIs("1000111000111000" + "11000011000", 5);
        Check.due("36407, read", firstRead(36407), 4);
        Check.due("36408, read", firstRead(36408), 5);
    }

    private static void toldIs(String row, int first) {
        LearningSpans x = new LearningSpans();
        for (int i = 0; i < row.length(); i++) {
            x.type(row.charAt(i));
        }
        Check.due(row + " has no fault", x.fault(1), -4);
        Check.due(row + " tells", x.told(0), first);
    }

    /** The first letter of sixteen bits, behind which such bits come that the text has no fault. */
    private static int firstRead(int number) {
        for (int behind = 0; behind < 4096; behind++) {
            LearningSpans x = new LearningSpans();
            for (int place = 15; place >= 0; place--) {
                x.type('0' + (number >> place & 1));
            }
            for (int place = 11; place >= 0; place--) {
                x.type('0' + (behind >> place & 1));
            }
            if (x.fault(1) == -4) {
                return x.told(0);
            }
        }
        return -1;
    }

    public static void main(String[] arguments) {
        for (String[] run : RUNS) {
            runOf(Integer.parseInt(run[0]), Integer.parseInt(run[1]), run[2]);
        }
        for (Edge edge : EDGES) {
            atTheEdge(edge);
        }
        lowestNumberOfALetter();
        Check.finish();
    }
}
