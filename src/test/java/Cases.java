/** What the tests by hand share: errors, objects that were made by some calls, and what they tell. */
abstract class Cases {
    static final int INVALID = -1;
    static final int NOT_POSSIBLE = -2;
    static final int LIMIT = -3;
    static final int NOT_FOUND = -4;
    static final int LEAST = Integer.MIN_VALUE;
    static final int MOST = Integer.MAX_VALUE;

    static void due(String what, long got, long want) {
        Check.due(what, got, want);
    }

    static void same(String what, String got, String want) {
        Check.holds(what + " is " + got + ", due is " + want + ":", got.equals(want));
    }

    static LearningSpans with(int... letters) {
        LearningSpans x = new LearningSpans();
        for (int letter : letters) {
            x.put(letter);
        }
        return x;
    }

    static LearningSpans by(int pace, int bound) {
        LearningSpans x = new LearningSpans();
        x.set(0, pace);
        x.set(1, bound);
        return x;
    }

    /** Letters in a text are told as a to h. */
    static void put(LearningSpans x, String letters) {
        for (int i = 0; i < letters.length(); i++) {
            x.put(letters.charAt(i) - 'a');
        }
    }

    static LearningSpans ended(String letters) {
        LearningSpans x = new LearningSpans();
        put(x, letters);
        x.end();
        return x;
    }

    /** Forty letters that learn so slowly that they need more bits than a text holds: 131, ended 139. */
    static LearningSpans longMessage() {
        LearningSpans x = by(1, 2000);
        put(x, "abcdefgh".repeat(5));
        return x;
    }

    static LearningSpans typed(String text) {
        LearningSpans x = new LearningSpans();
        type(x, text);
        return x;
    }

    static void type(LearningSpans x, String text) {
        for (int i = 0; i < text.length(); i++) {
            x.type(text.charAt(i));
        }
    }

    static String bits(LearningSpans x) {
        StringBuilder row = new StringBuilder();
        for (int place = 0; place < x.count(1); place++) {
            row.append(x.bit(place));
        }
        return row.toString();
    }

    static String letters(LearningSpans x) {
        StringBuilder row = new StringBuilder();
        for (int place = 0; place < x.count(0); place++) {
            row.append((char) ('a' + x.letter(place)));
        }
        return row.toString();
    }

    /** The letters that the text tells, or the error of the first one. */
    static String told(LearningSpans x) {
        int first = x.told(0);
        if (first < 0 && first != NOT_FOUND) {
            return String.valueOf(first);
        }
        StringBuilder row = new StringBuilder();
        for (int place = 0; x.told(place) >= 0; place++) {
            row.append((char) ('a' + x.told(place)));
        }
        return row.toString();
    }

    /** Everything but the history and the text is alike in both. */
    static void alike(String what, LearningSpans got, LearningSpans want) {
        for (int number = 0; number <= 12; number++) {
            if (number != 8 && number != 9) {
                due(what + ", count(" + number + ")", got.count(number), want.count(number));
            }
        }
        same(what + ": row", bits(got), bits(want));
        same(what + ": letters", letters(got), letters(want));
        for (int place = 0; place < want.count(0); place++) {
            due(what + ", cost(" + place + ")", got.cost(place), want.cost(place));
        }
        for (int letter = 0; letter <= 8; letter++) {
            for (int number = 0; number <= 3; number++) {
                due(what + ", letterOf(" + letter + ", " + number + ")", got.letterOf(letter, number),
                    want.letterOf(letter, number));
            }
        }
    }
}
