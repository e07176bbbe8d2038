import java.util.Random;

/** Long runs of calls, always the same ones, whose answers are those of the plain model. */
public final class RandomRunsTest {
    private static final int RUNS = 150;
    private static final int CALLS = 512;
    private static final int[] ODD = {Integer.MIN_VALUE, -1000, -2, -1, 0, 1, 2, 3, 4, 7, 8, 9, 12, 13, 31, 32, 33,
        39, 40, 41, 63, 64, 65, 119, 120, 126, 127, 128, 400, 1999, 2000, 2001, Integer.MAX_VALUE};
    private static final int[][] WEIGHTS = {
        // put end begin drop mend set letter bit letterOf count cost bitsBy bestPace readBack undo type clear write fault told
        {60, 2, 0, 2, 3, 0, 2, 2, 6, 8, 2, 3, 1, 4, 2, 3, 1, 3, 4, 4},
        {20, 10, 3, 5, 5, 5, 4, 4, 4, 8, 4, 3, 1, 5, 8, 12, 2, 8, 8, 8},
        {5, 3, 1, 1, 1, 2, 1, 1, 1, 2, 1, 1, 0, 3, 1, 60, 1, 3, 12, 8},
        {12, 5, 3, 8, 8, 4, 2, 2, 2, 4, 2, 1, 0, 2, 24, 2, 1, 2, 3, 3},
    };

    private final Random random;
    private final int kind;
    private final int skew;
    private int mostLetters = 0;
    private int mostBits = 0;

    private RandomRunsTest(int run) {
        random = new Random(9001L + run);
        kind = run % WEIGHTS.length;
        skew = run % 3;
    }

    private int odd() {
        return ODD[random.nextInt(ODD.length)];
    }

    /** Mostly a number from 0 to most, now and then any odd one. */
    private int upTo(int most) {
        return random.nextInt(12) == 0 ? odd() : random.nextInt(most + 1);
    }

    private int letter() {
        if (skew == 1) {
            return random.nextInt(5) == 0 ? upTo(7) : random.nextInt(2) * 7;
        }
        if (skew == 2) {
            return random.nextInt(4) == 0 ? upTo(7) : 3 + random.nextInt(2);
        }
        return upTo(7);
    }

    private int character() {
        int draw = random.nextInt(kind == 2 ? 160 : 30);
        return draw == 0 ? odd() : draw == 1 ? 32 + random.nextInt(95) : 48 + random.nextInt(skew == 1 ? 2 : 5) % 2;
    }

    private int call() {
        int sum = 0;
        for (int weight : WEIGHTS[kind]) {
            sum += weight;
        }
        int draw = random.nextInt(sum);
        int call = 0;
        while (draw >= WEIGHTS[kind][call]) {
            draw -= WEIGHTS[kind][call];
            call++;
        }
        return call;
    }

    private void one(String where, LearningSpans x, PlainModel y) {
        int call = call();
        int a;
        int b;
        String at = where + " call " + call + " ";
        switch (call) {
            case 0: a = letter(); Check.due(at + a, x.put(a), y.put(a)); break;
            case 1: Check.due(at, x.end(), y.end()); break;
            case 2: Check.due(at, x.begin(), y.begin()); break;
            case 3: a = random.nextInt(3) == 0 ? upTo(41) : upTo(4); Check.due(at + a, x.drop(a), y.drop(a)); break;
            case 4: a = upTo(42); b = letter(); Check.due(at + a + "," + b, x.mend(a, b), y.mend(a, b)); break;
            case 5:
                a = upTo(1);
                b = random.nextInt(4) == 0 ? odd() : a == 0 ? 1 + random.nextInt(64) : 32 + random.nextInt(random.nextBoolean() ? 64 : 1969);
                Check.due(at + a + "," + b, x.set(a, b), y.set(a, b));
                break;
            case 6: a = upTo(41); Check.due(at + a, x.letter(a), y.letter(a)); break;
            case 7: a = upTo(150); Check.due(at + a, x.bit(a), y.bit(a)); break;
            case 8: a = upTo(8); b = upTo(3); Check.due(at + a + "," + b, x.letterOf(a, b), y.letterOf(a, b)); break;
            case 9: a = upTo(12); Check.due(at + a, x.count(a), y.count(a)); break;
            case 10: a = upTo(41); Check.due(at + a, x.cost(a), y.cost(a)); break;
            case 11: a = upTo(64); Check.due(at + a, x.bitsBy(a), y.bitsBy(a)); break;
            case 12: Check.due(at, x.bestPace(), y.bestPace()); break;
            case 13: a = upTo(2); Check.due(at + a, x.readBack(a), y.readBack(a)); break;
            case 14: Check.due(at, x.undo(), y.undo()); break;
            case 15: a = character(); Check.due(at + a, x.type(a), y.type(a)); break;
            case 16: Check.due(at, x.clearText(), y.clearText()); break;
            case 17: Check.due(at, x.write(), y.write()); break;
            case 18: a = upTo(1); Check.due(at + a, x.fault(a), y.fault(a)); break;
            default: a = upTo(41); Check.due(at + a, x.told(a), y.told(a)); break;
        }
    }

    /** All that can be asked, so that a state gone wrong shows where it went wrong. */
    private void whole(String where, LearningSpans x, PlainModel y) {
        for (int what = -1; what <= 13; what++) {
            Check.due(where + " count " + what, x.count(what), y.count(what));
        }
        for (int place = -1; place <= x.count(0); place++) {
            Check.due(where + " letter " + place, x.letter(place), y.letter(place));
            Check.due(where + " cost " + place, x.cost(place), y.cost(place));
        }
        for (int place = -1; place <= x.count(1); place++) {
            Check.due(where + " bit " + place, x.bit(place), y.bit(place));
        }
        for (int letter = -1; letter <= 9; letter++) {
            for (int what = -1; what <= 4; what++) {
                Check.due(where + " letterOf " + letter + "," + what, x.letterOf(letter, what), y.letterOf(letter, what));
            }
        }
        for (int what = -1; what <= 3; what++) {
            Check.due(where + " readBack " + what, x.readBack(what), y.readBack(what));
            Check.due(where + " fault " + what, x.fault(what), y.fault(what));
        }
        for (int place = -1; place <= 41; place++) {
            Check.due(where + " told " + place, x.told(place), y.told(place));
        }
    }

    /** What is ended is read back as it was put. */
    private void readsBack(String where, LearningSpans x) {
        if (x.count(7) == 1) {
            Check.due(where + " letters read back", x.readBack(0), x.count(0));
            Check.due(where + " over", x.readBack(1), 1);
            Check.due(where + " letters alike", x.readBack(2), x.count(0));
        }
        mostLetters = Math.max(mostLetters, x.count(0));
        mostBits = Math.max(mostBits, x.count(1));
    }

    public static void main(String[] arguments) {
        int letters = 0;
        int bits = 0;
        for (int run = 0; run < RUNS && Check.wrong() < 20; run++) {
            RandomRunsTest test = new RandomRunsTest(run);
            LearningSpans x = new LearningSpans();
            PlainModel y = new PlainModel();
            for (int call = 0; call < CALLS && Check.wrong() < 20; call++) {
                String where = "run " + run + ", " + call + ":";
                test.one(where, x, y);
                if (call % 64 == 63) {
                    test.whole(where, x, y);
                    test.readsBack(where, x);
                }
            }
            letters = Math.max(letters, test.mostLetters);
            bits = Math.max(bits, test.mostBits);
        }
        Check.due("letters of the longest message", letters, 40);
        Check.holds("rows of more than 120 bits were seen", bits > 120);
        Check.finish();
    }
}
