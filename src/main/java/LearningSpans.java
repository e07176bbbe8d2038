/**
 * Whole messages as one row of bits, by a span that shrinks with every letter;
 * the counts of the letters learn while the message grows.
 *
 * What a message is, its letters, its end and its settings tell alone. All else
 * (bits, counts, span) follows from them, so it is written anew wherever the
 * letters change otherwise than at their end.
 */
public final class LearningSpans {
    public static final int INVALID_ARGUMENT = -1;
    public static final int NOT_POSSIBLE = -2;
    public static final int LIMIT_REACHED = -3;
    public static final int NOT_FOUND = -4;

    private static final int END = 8;
    private static final int KINDS = 9;
    private static final int LETTERS_MOST = 40;
    private static final int TEXT_MOST = 120;
    private static final int STATES_MOST = 4;

    private static final int PACE_FIRST = 8;
    private static final int PACE_LEAST = 1;
    private static final int PACE_MOST = 64;
    private static final int BOUND_FIRST = 400;
    private static final int BOUND_LEAST = 32;
    private static final int BOUND_MOST = 2000;

    private static final int SPAN_BITS = 16;
    private static final int SPAN_TOP = 65535;
    private static final int QUARTER = 16384;
    private static final int HALF = 32768;
    private static final int THREE_QUARTERS = 49152;
    private static final int NOTHING_LEFT = -1;

    // A span is never doubled oftener than it has bits: so much for each letter
    // and the end, and the two bits that the end adds.
    private static final int BITS_MOST = (LETTERS_MOST + 1) * SPAN_BITS + 2;

    private static final int NO_FAULT = 0;
    private static final int STRANGE_CHARACTER = 1;
    private static final int BROKEN_OFF = 2;
    private static final int BITS_BEHIND = 3;

    private final Message message;
    private final Coder coder;
    private final Coder trial;
    private final Reader reader;
    private final Text text;
    private final BitRow textBits;
    private final History history;

    public LearningSpans() {
        message = new Message();
        coder = new Coder();
        trial = new Coder();
        reader = new Reader();
        text = new Text();
        textBits = new BitRow();
        history = new History();
    }

    // ---- messages

    public int put(int letter) {
        if (!isLetter(letter)) {
            return INVALID_ARGUMENT;
        }
        if (message.ended) {
            return NOT_POSSIBLE;
        }
        if (message.size >= LETTERS_MOST) {
            return LIMIT_REACHED;
        }
        history.keep(message);
        message.append(letter);
        return coder.add(letter);
    }

    public int end() {
        if (message.ended) {
            return NOT_POSSIBLE;
        }
        history.keep(message);
        message.ended = true;
        coder.close();
        return coder.bits.size;
    }

    public int begin() {
        int before = message.size;
        history.keep(message);
        message.empty();
        writeAnew();
        return before;
    }

    public int drop(int many) {
        if (many < 1 || many > LETTERS_MOST) {
            return INVALID_ARGUMENT;
        }
        if (many > message.size) {
            return NOT_POSSIBLE;
        }
        history.keep(message);
        message.shorten(many);
        writeAnew();
        return coder.bits.size;
    }

    public int mend(int place, int letter) {
        if (place < 0 || !isLetter(letter)) {
            return INVALID_ARGUMENT;
        }
        if (place >= message.size) {
            return NOT_POSSIBLE;
        }
        history.keep(message);
        message.replace(place, letter);
        writeAnew();
        return coder.bits.size;
    }

    public int set(int what, int value) {
        if (!isSetting(what, value)) {
            return INVALID_ARGUMENT;
        }
        history.keep(message);
        int before = what == 0 ? message.pace : message.bound;
        if (what == 0) {
            message.pace = value;
        } else {
            message.bound = value;
        }
        message.empty();
        writeAnew();
        return before;
    }

    // ---- what there is

    public int letter(int place) {
        if (place < 0) {
            return INVALID_ARGUMENT;
        }
        return place < message.size ? message.letterAt(place) : NOT_FOUND;
    }

    public int bit(int place) {
        if (place < 0) {
            return INVALID_ARGUMENT;
        }
        return place < coder.bits.size ? coder.bits.bitAt(place) : NOT_FOUND;
    }

    public int letterOf(int letter, int what) {
        if (letter < 0 || letter > END || what < 0 || what > 3) {
            return INVALID_ARGUMENT;
        }
        if (what == 0) {
            return coder.counts.countAt(letter);
        }
        if (what == 1) {
            return coder.counts.below(letter);
        }
        if (what == 2) {
            return message.howOften(letter);
        }
        return message.ended ? NOT_POSSIBLE : bitsMoreWith(letter);
    }

    public int count(int what) {
        switch (what) {
            case 0: return message.size;
            case 1: return coder.bits.size;
            case 2: return coder.waiting;
            case 3: return coder.span.low;
            case 4: return coder.span.high;
            case 5: return coder.counts.total;
            case 6: return coder.counts.halvings;
            case 7: return message.ended ? 1 : 0;
            case 8: return history.size;
            case 9: return text.size;
            case 10: return message.pace;
            case 11: return message.bound;
            case 12: return coder.dearest();
            default: return INVALID_ARGUMENT;
        }
    }

    public int cost(int place) {
        if (place < 0) {
            return INVALID_ARGUMENT;
        }
        return place < message.size ? coder.costAt(place) : NOT_FOUND;
    }

    // ---- what would be

    public int bitsBy(int pace) {
        if (!isPace(pace)) {
            return INVALID_ARGUMENT;
        }
        return bitsEnded(pace);
    }

    public int bestPace() {
        int best = PACE_LEAST;
        int fewest = bitsEnded(best);
        for (int pace = PACE_LEAST + 1; pace <= PACE_MOST; pace++) {
            int bits = bitsEnded(pace);
            if (bits < fewest) {
                fewest = bits;
                best = pace;
            }
        }
        return best;
    }

    public int readBack(int what) {
        if (what < 0 || what > 2) {
            return INVALID_ARGUMENT;
        }
        reader.read(coder.bits, message.pace, message.bound);
        if (what == 0) {
            return reader.size;
        }
        if (what == 1) {
            return reader.over ? 1 : 0;
        }
        return alikeFromFirst();
    }

    public int undo() {
        if (history.size == 0) {
            return NOT_POSSIBLE;
        }
        history.restore(message);
        writeAnew();
        return history.size;
    }

    // ---- texts

    public int type(int character) {
        if (character < 32 || character > 126) {
            return INVALID_ARGUMENT;
        }
        if (text.size >= TEXT_MOST) {
            return LIMIT_REACHED;
        }
        text.append(character);
        return text.size;
    }

    public int clearText() {
        int before = text.size;
        text.empty();
        return before;
    }

    public int write() {
        if (coder.bits.size > TEXT_MOST) {
            return LIMIT_REACHED;
        }
        text.copyFrom(coder.bits);
        return text.size;
    }

    public int fault(int what) {
        if (what < 0 || what > 1) {
            return INVALID_ARGUMENT;
        }
        int reason = faultReason();
        if (reason == NO_FAULT) {
            return NOT_FOUND;
        }
        return what == 0 ? faultPlace(reason) : reason;
    }

    public int told(int place) {
        if (place < 0) {
            return INVALID_ARGUMENT;
        }
        if (faultReason() != NO_FAULT) {
            return NOT_POSSIBLE;
        }
        return place < reader.size ? reader.letterAt(place) : NOT_FOUND;
    }

    private static boolean isLetter(int letter) {
        return letter >= 0 && letter < END;
    }

    private static boolean isPace(int value) {
        return value >= PACE_LEAST && value <= PACE_MOST;
    }

    private static boolean isSetting(int what, int value) {
        if (what == 0) {
            return isPace(value);
        }
        return what == 1 && value >= BOUND_LEAST && value <= BOUND_MOST;
    }

    private void writeAnew() {
        coder.start(message.pace, message.bound);
        coder.addAll(message);
        if (message.ended) {
            coder.close();
        }
    }

    private int bitsMoreWith(int letter) {
        trial.start(message.pace, message.bound);
        trial.addAll(message);
        if (letter != END) {
            return trial.add(letter);
        }
        int before = trial.bits.size;
        trial.close();
        return trial.bits.size - before;
    }

    private int bitsEnded(int pace) {
        trial.start(pace, message.bound);
        trial.addAll(message);
        trial.close();
        return trial.bits.size;
    }

    private int alikeFromFirst() {
        int most = Math.min(reader.size, message.size);
        for (int place = 0; place < most; place++) {
            if (reader.letterAt(place) != message.letterAt(place)) {
                return place;
            }
        }
        return most;
    }

    /** Leaves what the text tells in the reader, if it tells bits at all. */
    private int faultReason() {
        if (text.firstStrange() < text.size) {
            return STRANGE_CHARACTER;
        }
        text.copyTo(textBits);
        reader.read(textBits, message.pace, message.bound);
        if (!reader.over) {
            return BROKEN_OFF;
        }
        return textBits.firstOne(reader.taken) < textBits.size ? BITS_BEHIND : NO_FAULT;
    }

    private int faultPlace(int reason) {
        if (reason == STRANGE_CHARACTER) {
            return text.firstStrange();
        }
        if (reason == BITS_BEHIND) {
            return textBits.firstOne(reader.taken);
        }
        return text.size;
    }

    /** All that a state of the history must keep. */
    private static final class Message {
        private final int[] letters = new int[LETTERS_MOST];
        private int size = 0;
        private boolean ended = false;
        private int pace = PACE_FIRST;
        private int bound = BOUND_FIRST;

        int letterAt(int place) {
            return place >= 0 && place < letters.length ? letters[place] : 0;
        }

        void append(int letter) {
            if (size >= 0 && size < letters.length) {
                letters[size] = letter;
                size++;
            }
        }

        void replace(int place, int letter) {
            if (place >= 0 && place < letters.length) {
                letters[place] = letter;
            }
        }

        void shorten(int many) {
            size = Math.max(0, size - many);
            ended = false;
        }

        void empty() {
            size = 0;
            ended = false;
        }

        int howOften(int letter) {
            int often = 0;
            for (int place = 0; place < size; place++) {
                if (letterAt(place) == letter) {
                    often++;
                }
            }
            return often;
        }

        void copyFrom(Message other) {
            for (int place = 0; place < letters.length; place++) {
                letters[place] = other.letterAt(place);
            }
            size = other.size;
            ended = other.ended;
            pace = other.pace;
            bound = other.bound;
        }
    }

    /** The states before the latest changes; its messages are made once and used again. */
    private static final class History {
        private final Message[] states = new Message[STATES_MOST];
        private int size = 0;

        History() {
            for (int place = 0; place < states.length; place++) {
                states[place] = new Message();
            }
        }

        void keep(Message message) {
            if (size >= states.length) {
                dropOldest();
            }
            if (size >= 0 && size < states.length) {
                copy(message, states[size]);
                size++;
            }
        }

        void restore(Message message) {
            if (size > 0 && size <= states.length) {
                size--;
                copy(states[size], message);
            }
        }

        private void dropOldest() {
            for (int place = 1; place < states.length; place++) {
                copy(states[place], states[place - 1]);
            }
            size = states.length - 1;
        }

        private static void copy(Message from, Message to) {
            if (from != null && to != null) {
                to.copyFrom(from);
            }
        }
    }

    /** How often each letter is held to come; it learns from those that came. */
    private static final class Counts {
        private final int[] row = new int[KINDS];
        private int total = 0;
        private int halvings = 0;
        private int pace = PACE_FIRST;
        private int bound = BOUND_FIRST;

        void start(int paceNow, int boundNow) {
            for (int letter = 0; letter < row.length; letter++) {
                row[letter] = 1;
            }
            total = row.length;
            halvings = 0;
            pace = paceNow;
            bound = boundNow;
        }

        int countAt(int letter) {
            return letter >= 0 && letter < row.length ? row[letter] : 0;
        }

        int below(int letter) {
            int sum = 0;
            for (int lower = 0; lower < letter && lower < row.length; lower++) {
                sum += row[lower];
            }
            return sum;
        }

        /** The letter in whose part of the total a number falls. */
        int letterWith(int number) {
            int sum = 0;
            for (int letter = 0; letter < row.length; letter++) {
                sum += row[letter];
                if (sum > number) {
                    return letter;
                }
            }
            return END;
        }

        void learn(int letter) {
            if (letter < 0 || letter >= row.length) {
                return;
            }
            row[letter] += pace;
            total += pace;
            if (total > bound) {
                halve();
            }
        }

        private void halve() {
            total = 0;
            for (int letter = 0; letter < row.length; letter++) {
                row[letter] = (row[letter] + 1) / 2;
                total += row[letter];
            }
            halvings++;
        }
    }

    /** The span, shared by writing and reading, which must shrink it alike. */
    private static final class Span {
        private int low = 0;
        private int high = SPAN_TOP;

        void start() {
            low = 0;
            high = SPAN_TOP;
        }

        void shrink(Counts counts, int letter) {
            int total = counts.total;
            if (total < 1) {
                return;
            }
            int range = high - low + 1;
            int below = counts.below(letter);
            int above = below + counts.countAt(letter);
            high = low + range * above / total - 1;
            low = low + range * below / total;
        }

        /** Doubles the span if it may; returns what was taken off, or NOTHING_LEFT if it may not. */
        int widen() {
            int off;
            if (high < HALF) {
                off = 0;
            } else if (low >= HALF) {
                off = HALF;
            } else if (low >= QUARTER && high < THREE_QUARTERS) {
                off = QUARTER;
            } else {
                return NOTHING_LEFT;
            }
            low = (low - off) * 2;
            high = (high - off) * 2 + 1;
            return off;
        }

        /** The letter to whose part of the span a number in it belongs. */
        int letterAround(int number, Counts counts) {
            int range = high - low + 1;
            if (range < 1) {
                return END;
            }
            return counts.letterWith(((number - low + 1) * counts.total - 1) / range);
        }
    }

    private static final class BitRow {
        private final int[] row = new int[BITS_MOST];
        private int size = 0;

        void empty() {
            size = 0;
        }

        void append(int bit) {
            if (size >= 0 && size < row.length) {
                row[size] = bit;
                size++;
            }
        }

        /** Behind the last bit there are only bits 0. */
        int bitAt(int place) {
            return place >= 0 && place < size && place < row.length ? row[place] : 0;
        }

        /** The first bit 1 from a place on, or the size if there is none. */
        int firstOne(int from) {
            for (int place = Math.max(0, from); place < size; place++) {
                if (bitAt(place) == 1) {
                    return place;
                }
            }
            return size;
        }
    }

    /** Writes letters as bits. */
    private static final class Coder {
        private final Counts counts = new Counts();
        private final Span span = new Span();
        private final BitRow bits = new BitRow();
        private final int[] costs = new int[LETTERS_MOST];
        private int size = 0;
        private int waiting = 0;

        Coder() {
            start(PACE_FIRST, BOUND_FIRST);
        }

        void start(int pace, int bound) {
            counts.start(pace, bound);
            span.start();
            bits.empty();
            size = 0;
            waiting = 0;
        }

        /** Returns by how many bits the row became longer. */
        int add(int letter) {
            int before = bits.size;
            narrow(letter);
            counts.learn(letter);
            int written = bits.size - before;
            if (size >= 0 && size < costs.length) {
                costs[size] = written;
                size++;
            }
            return written;
        }

        void addAll(Message message) {
            for (int place = 0; place < message.size; place++) {
                add(message.letterAt(place));
            }
        }

        /** Writes so many bits that whatever came behind them would leave the number in the span. */
        void close() {
            narrow(END);
            waiting++;
            writeBit(span.low < QUARTER ? 0 : 1);
        }

        int costAt(int place) {
            return place >= 0 && place < costs.length ? costs[place] : 0;
        }

        int dearest() {
            int most = 0;
            for (int place = 0; place < size; place++) {
                most = Math.max(most, costAt(place));
            }
            return most;
        }

        private void narrow(int letter) {
            span.shrink(counts, letter);
            for (int times = 0; times < SPAN_BITS; times++) {
                int off = span.widen();
                if (off == NOTHING_LEFT) {
                    return;
                }
                if (off == QUARTER) {
                    waiting++;
                } else {
                    writeBit(off == HALF ? 1 : 0);
                }
            }
        }

        private void writeBit(int bit) {
            bits.append(bit);
            for (int other = 0; other < waiting; other++) {
                bits.append(1 - bit);
            }
            waiting = 0;
        }
    }

    /** Reads bits as letters. */
    private static final class Reader {
        private final Counts counts = new Counts();
        private final Span span = new Span();
        private final int[] letters = new int[LETTERS_MOST];
        private int size = 0;
        private int number = 0;
        private int taken = 0;
        private boolean over = false;

        int letterAt(int place) {
            return place >= 0 && place < letters.length ? letters[place] : 0;
        }

        void read(BitRow bits, int pace, int bound) {
            counts.start(pace, bound);
            span.start();
            size = 0;
            number = 0;
            taken = 0;
            over = false;
            for (int times = 0; times < SPAN_BITS; times++) {
                takeBit(bits);
            }
            for (int times = 0; times <= LETTERS_MOST && !over; times++) {
                readLetter(bits);
            }
        }

        /** A letter for which there is no room breaks reading off: it is not told. */
        private void readLetter(BitRow bits) {
            int letter = span.letterAround(number, counts);
            if (letter == END) {
                over = true;
            } else if (size >= 0 && size < letters.length) {
                letters[size] = letter;
                size++;
                narrow(letter, bits);
                counts.learn(letter);
            }
        }

        private void narrow(int letter, BitRow bits) {
            span.shrink(counts, letter);
            for (int times = 0; times < SPAN_BITS; times++) {
                int off = span.widen();
                if (off == NOTHING_LEFT) {
                    return;
                }
                number -= off;
                takeBit(bits);
            }
        }

        private void takeBit(BitRow bits) {
            number = number * 2 + bits.bitAt(taken);
            taken++;
        }
    }

    private static final class Text {
        private static final int ZERO = 48;
        private static final int ONE = 49;

        private final int[] characters = new int[TEXT_MOST];
        private int size = 0;

        void empty() {
            size = 0;
        }

        void append(int character) {
            if (size >= 0 && size < characters.length) {
                characters[size] = character;
                size++;
            }
        }

        void copyFrom(BitRow bits) {
            empty();
            for (int place = 0; place < bits.size; place++) {
                append(bits.bitAt(place) == 1 ? ONE : ZERO);
            }
        }

        void copyTo(BitRow bits) {
            bits.empty();
            for (int place = 0; place < size && place < characters.length; place++) {
                bits.append(characters[place] == ONE ? 1 : 0);
            }
        }

        /** The first character that tells no bit, or the size if there is none. */
        int firstStrange() {
            for (int place = 0; place < size && place < characters.length; place++) {
                if (characters[place] != ZERO && characters[place] != ONE) {
                    return place;
                }
            }
            return size;
        }
    }
}
