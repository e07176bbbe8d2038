import java.util.ArrayList;
import java.util.List;

/**
 * The document once more, as plainly as it goes: every answer is worked out
 * anew from the letters, bits are texts, states are whole copies.
 */
final class PlainModel {
    /** What is as soon as some letters have been put, and perhaps the end. */
    private static final class Written {
        final long[] counts = {1, 1, 1, 1, 1, 1, 1, 1, 1};
        long low = 0;
        long high = 65535;
        int waits = 0;
        int halved = 0;
        String bits = "";
        final List<Integer> costs = new ArrayList<>();

        long total() {
            return below(9);
        }

        long below(int letter) {
            long sum = 0;
            for (int i = 0; i < letter; i++) {
                sum += counts[i];
            }
            return sum;
        }

        void more(int letter, int pace, int bound) {
            counts[letter] += pace;
            if (total() > bound) {
                for (int i = 0; i < 9; i++) {
                    counts[i] = (counts[i] + 1) / 2;
                }
                halved++;
            }
        }

        void one(char bit) {
            char other = bit == '0' ? '1' : '0';
            bits = bits + bit + String.valueOf(other).repeat(waits);
            waits = 0;
        }

        /** Returns what was done to the span: "0", "1" or "w" for each doubling. */
        String narrow(int letter) {
            long r = high - low + 1;
            long t = total();
            long b = below(letter);
            long c = counts[letter];
            high = low + r * (b + c) / t - 1;
            low = low + r * b / t;
            StringBuilder done = new StringBuilder();
            while (true) {
                if (high < 32768) {
                    one('0');
                    done.append('0');
                } else if (low >= 32768) {
                    one('1');
                    done.append('1');
                    low -= 32768;
                    high -= 32768;
                } else if (low >= 16384 && high < 49152) {
                    waits++;
                    done.append('w');
                    low -= 16384;
                    high -= 16384;
                } else {
                    return done.toString();
                }
                low = low + low;
                high = high + high + 1;
            }
        }

        void put(int letter, int pace, int bound) {
            int before = bits.length();
            narrow(letter);
            more(letter, pace, bound);
            costs.add(bits.length() - before);
        }

        void end() {
            narrow(8);
            waits++;
            one(low < 16384 ? '0' : '1');
        }
    }

    private static final class Told {
        final List<Integer> letters = new ArrayList<>();
        boolean over = false;
        int taken = 16;
    }

    private record State(List<Integer> letters, boolean ended, int pace, int bound) {
    }

    private State now = new State(List.of(), false, 8, 400);
    private String text = "";
    private List<State> history = new ArrayList<>();

    private static Written written(List<Integer> letters, boolean ended, int pace, int bound) {
        Written w = new Written();
        for (int letter : letters) {
            w.put(letter, pace, bound);
        }
        if (ended) {
            w.end();
        }
        return w;
    }

    private Written written() {
        return written(now.letters, now.ended, now.pace, now.bound);
    }

    private int bits() {
        return written().bits.length();
    }

    private static Told read(String bits, int pace, int bound) {
        String all = bits + "0".repeat(2000);
        Told told = new Told();
        Written w = new Written();
        long v = Long.parseLong(all.substring(0, 16), 2);
        while (true) {
            long r = w.high - w.low + 1;
            long number = ((v - w.low + 1) * w.total() - 1) / r;
            int letter = 0;
            while (!(w.below(letter) <= number && w.below(letter) + w.counts[letter] > number)) {
                letter++;
            }
            if (letter == 8) {
                told.over = true;
                return told;
            }
            if (told.letters.size() == 40) {
                return told;
            }
            told.letters.add(letter);
            for (char done : w.narrow(letter).toCharArray()) {
                v -= done == '0' ? 0 : done == '1' ? 32768 : 16384;
                v = v + v + (all.charAt(told.taken) - '0');
                told.taken++;
            }
            w.more(letter, pace, bound);
        }
    }

    private void change(State next) {
        history.add(now);
        if (history.size() == 5) {
            history.remove(0);
        }
        now = next;
    }

    int put(int letter) {
        if (letter < 0 || letter > 7) {
            return -1;
        }
        if (now.ended) {
            return -2;
        }
        if (now.letters.size() == 40) {
            return -3;
        }
        int before = bits();
        List<Integer> more = new ArrayList<>(now.letters);
        more.add(letter);
        change(new State(more, false, now.pace, now.bound));
        return bits() - before;
    }

    int end() {
        if (now.ended) {
            return -2;
        }
        change(new State(now.letters, true, now.pace, now.bound));
        return bits();
    }

    int begin() {
        int before = now.letters.size();
        change(new State(List.of(), false, now.pace, now.bound));
        return before;
    }

    int drop(int many) {
        if (many < 1 || many > 40) {
            return -1;
        }
        if (many > now.letters.size()) {
            return -2;
        }
        List<Integer> fewer = new ArrayList<>(now.letters.subList(0, now.letters.size() - many));
        change(new State(fewer, false, now.pace, now.bound));
        return bits();
    }

    int mend(int place, int letter) {
        if (place < 0 || letter < 0 || letter > 7) {
            return -1;
        }
        if (place >= now.letters.size()) {
            return -2;
        }
        List<Integer> mended = new ArrayList<>(now.letters);
        mended.set(place, letter);
        change(new State(mended, now.ended, now.pace, now.bound));
        return bits();
    }

    int set(int what, int value) {
        if (what == 0 && value >= 1 && value <= 64) {
            int before = now.pace;
            change(new State(List.of(), false, value, now.bound));
            return before;
        }
        if (what == 1 && value >= 32 && value <= 2000) {
            int before = now.bound;
            change(new State(List.of(), false, now.pace, value));
            return before;
        }
        return -1;
    }

    int letter(int place) {
        return place < 0 ? -1 : place >= now.letters.size() ? -4 : now.letters.get(place);
    }

    int bit(int place) {
        return place < 0 ? -1 : place >= bits() ? -4 : written().bits.charAt(place) - '0';
    }

    int letterOf(int letter, int what) {
        if (letter < 0 || letter > 8 || what < 0 || what > 3) {
            return -1;
        }
        Written w = written();
        switch (what) {
            case 0: return (int) w.counts[letter];
            case 1: return (int) w.below(letter);
            case 2: return (int) now.letters.stream().filter(l -> l == letter).count();
            default:
        }
        if (now.ended) {
            return -2;
        }
        int before = w.bits.length();
        if (letter == 8) {
            w.end();
        } else {
            w.narrow(letter);
        }
        return w.bits.length() - before;
    }

    int count(int what) {
        Written w = written();
        int[] all = {now.letters.size(), w.bits.length(), w.waits, (int) w.low, (int) w.high, (int) w.total(),
            w.halved, now.ended ? 1 : 0, history.size(), text.length(), now.pace, now.bound,
            w.costs.stream().mapToInt(c -> c).max().orElse(0)};
        return what < 0 || what >= all.length ? -1 : all[what];
    }

    int cost(int place) {
        return place < 0 ? -1 : place >= now.letters.size() ? -4 : written().costs.get(place);
    }

    int bitsBy(int pace) {
        return pace < 1 || pace > 64 ? -1 : written(now.letters, true, pace, now.bound).bits.length();
    }

    int bestPace() {
        int best = 64;
        for (int pace = 64; pace >= 1; pace--) {
            if (bitsBy(pace) <= bitsBy(best)) {
                best = pace;
            }
        }
        return best;
    }

    int readBack(int what) {
        if (what < 0 || what > 2) {
            return -1;
        }
        Told told = read(written().bits, now.pace, now.bound);
        if (what == 0) {
            return told.letters.size();
        }
        if (what == 1) {
            return told.over ? 1 : 0;
        }
        int alike = 0;
        while (alike < told.letters.size() && alike < now.letters.size()
                && told.letters.get(alike).equals(now.letters.get(alike))) {
            alike++;
        }
        return alike;
    }

    int undo() {
        if (history.isEmpty()) {
            return -2;
        }
        now = history.remove(history.size() - 1);
        return history.size();
    }

    int type(int character) {
        if (character < 32 || character > 126) {
            return -1;
        }
        if (text.length() == 120) {
            return -3;
        }
        text = text + (char) character;
        return text.length();
    }

    int clearText() {
        int before = text.length();
        text = "";
        return before;
    }

    int write() {
        if (bits() > 120) {
            return -3;
        }
        text = written().bits;
        return text.length();
    }

    /** Place and reason of the fault, or null. */
    private int[] fault() {
        for (int i = 0; i < text.length(); i++) {
            if ("01".indexOf(text.charAt(i)) < 0) {
                return new int[] {i, 1};
            }
        }
        Told told = read(text, now.pace, now.bound);
        if (!told.over) {
            return new int[] {text.length(), 2};
        }
        int behind = text.indexOf('1', told.taken);
        return behind < 0 ? null : new int[] {behind, 3};
    }

    int fault(int what) {
        if (what < 0 || what > 1) {
            return -1;
        }
        int[] fault = fault();
        return fault == null ? -4 : fault[what];
    }

    int told(int place) {
        if (place < 0) {
            return -1;
        }
        if (fault() != null) {
            return -2;
        }
        List<Integer> letters = read(text, now.pace, now.bound).letters;
        return place >= letters.size() ? -4 : letters.get(place);
    }
}
