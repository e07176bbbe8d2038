/**
 * Every answer of a call that changes nothing, as one text: where two objects
 * look the same, nothing can tell them apart. It takes fewer than 330 calls,
 * so that it stays within the 512 of an object.
 */
final class Look {
    private Look() {
    }

    static String at(LearningSpans x) {
        StringBuilder look = new StringBuilder();
        for (int what = -1; what <= 13; what++) {
            look.append(" count ").append(x.count(what));
        }
        message(x, look);
        for (int letter = 0; letter <= 8; letter++) {
            for (int what = 0; what <= 3; what++) {
                look.append(" of ").append(x.letterOf(letter, what));
            }
        }
        for (int pace = 1; pace <= 64; pace += 21) {
            look.append(" by ").append(x.bitsBy(pace));
        }
        look.append(" best ").append(x.bestPace());
        for (int what = 0; what <= 2; what++) {
            look.append(" back ").append(x.readBack(what));
        }
        text(x, look);
        return look.toString();
    }

    private static void message(LearningSpans x, StringBuilder look) {
        for (int place = 0; place <= x.count(0); place++) {
            look.append(" letter ").append(x.letter(place)).append(" cost ").append(x.cost(place));
        }
        for (int place = 0; place <= x.count(1); place++) {
            look.append(" bit ").append(x.bit(place));
        }
    }

    private static void text(LearningSpans x, StringBuilder look) {
        look.append(" fault ").append(x.fault(0)).append(' ').append(x.fault(1));
        int told = x.told(0);
        for (int place = 1; told >= 0; place++) {
            look.append(" told ").append(told);
            told = x.told(place);
        }
        look.append(" told ").append(told);
    }
}
