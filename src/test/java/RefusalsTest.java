import java.util.ArrayList;
import java.util.List;
import java.util.function.Consumer;
import java.util.function.ToIntFunction;

/**
 * "A call that returns an error changes nothing": behind each refused call, in
 * each of some states, every call that asks answers as without it, now and
 * behind every undo. And "if several errors apply": which one is returned.
 */
public final class RefusalsTest extends Cases {
    private record Refusal(String call, int error, ToIntFunction<LearningSpans> made) {
    }

    /** How an object comes to a state, and what is refused there beside the calls with wrong arguments. */
    private record State(String name, Consumer<LearningSpans> run, List<Refusal> refusals) {
    }

    private static final List<Refusal> WRONG = new ArrayList<>();
    private static int compared = 0;

    private RefusalsTest() {
    }

    private static Refusal refusal(String call, int error, ToIntFunction<LearningSpans> made) {
        return new Refusal(call, error, made);
    }

    private static void wrong(String call, ToIntFunction<LearningSpans> made) {
        WRONG.add(refusal(call, INVALID, made));
    }

    /** Wrong in every state, whatever other errors apply there. */
    private static void wrongArguments() {
        for (int a : new int[] {LEAST, -1, 8, MOST}) {
            wrong("put(" + a + ")", x -> x.put(a));
            wrong("mend(0, " + a + ")", x -> x.mend(0, a));
            wrong("mend(40, " + a + ")", x -> x.mend(40, a));
        }
        for (int a : new int[] {LEAST, -1, 0, 41, MOST}) {
            wrong("drop(" + a + ")", x -> x.drop(a));
        }
        for (int a : new int[] {LEAST, -1}) {
            wrong("mend(" + a + ", 0)", x -> x.mend(a, 0));
            wrong("letter(" + a + ")", x -> x.letter(a));
            wrong("bit(" + a + ")", x -> x.bit(a));
            wrong("cost(" + a + ")", x -> x.cost(a));
            wrong("told(" + a + ")", x -> x.told(a));
        }
        for (int[] a : new int[][] {{LEAST, 40}, {-1, 40}, {2, 40}, {MOST, 40}, {0, LEAST}, {0, 0}, {0, 65}, {0, MOST},
            {1, LEAST}, {1, 31}, {1, 2001}, {1, MOST}, {2, 2001}}) {
            wrong("set(" + a[0] + ", " + a[1] + ")", x -> x.set(a[0], a[1]));
        }
        for (int[] a : new int[][] {{LEAST, 0}, {-1, 3}, {9, 3}, {MOST, 0}, {0, LEAST}, {0, -1}, {8, 4}, {0, MOST}}) {
            wrong("letterOf(" + a[0] + ", " + a[1] + ")", x -> x.letterOf(a[0], a[1]));
        }
        wrongWhats();
    }

    private static void wrongWhats() {
        for (int a : new int[] {LEAST, -1, 13, MOST}) {
            wrong("count(" + a + ")", x -> x.count(a));
        }
        for (int a : new int[] {LEAST, 0, 65, MOST}) {
            wrong("bitsBy(" + a + ")", x -> x.bitsBy(a));
        }
        for (int a : new int[] {LEAST, -1, 3, MOST}) {
            wrong("readBack(" + a + ")", x -> x.readBack(a));
        }
        for (int a : new int[] {LEAST, -1, 2, MOST}) {
            wrong("fault(" + a + ")", x -> x.fault(a));
        }
        for (int a : new int[] {LEAST, -1, 31, 127, MOST}) {
            wrong("type(" + a + ")", x -> x.type(a));
        }
    }

    private static State state(String name, Consumer<LearningSpans> run, Refusal... refusals) {
        return new State(name, run, List.of(refusals));
    }

    private static State aNewOne() {
        return state("new", x -> { },
            refusal("drop(1)", NOT_POSSIBLE, x -> x.drop(1)),
            refusal("drop(40)", NOT_POSSIBLE, x -> x.drop(40)),
            refusal("mend(0, 0)", NOT_POSSIBLE, x -> x.mend(0, 0)),
            refusal("letter(0)", NOT_FOUND, x -> x.letter(0)),
            refusal("bit(0)", NOT_FOUND, x -> x.bit(0)),
            refusal("cost(0)", NOT_FOUND, x -> x.cost(0)),
            refusal("undo()", NOT_POSSIBLE, x -> x.undo()),
            refusal("told(0) of the empty text", NOT_POSSIBLE, x -> x.told(0)));
    }

    private static State threeLetters() {
        return state("three letters, bits wait, a text without a fault", x -> {
            put(x, "eah");
            type(x, "10001101");
        },
            refusal("drop(4)", NOT_POSSIBLE, x -> x.drop(4)),
            refusal("mend(3, 0)", NOT_POSSIBLE, x -> x.mend(3, 0)),
            refusal("mend(most, 7)", NOT_POSSIBLE, x -> x.mend(MOST, 7)),
            refusal("letter(3)", NOT_FOUND, x -> x.letter(3)),
            refusal("bit behind the last", NOT_FOUND, x -> x.bit(x.count(1))),
            refusal("bit(most)", NOT_FOUND, x -> x.bit(MOST)),
            refusal("cost(3)", NOT_FOUND, x -> x.cost(3)),
            refusal("fault(0)", NOT_FOUND, x -> x.fault(0)),
            refusal("fault(1)", NOT_FOUND, x -> x.fault(1)),
            refusal("told(1)", NOT_FOUND, x -> x.told(1)));
    }

    private static State endedOne() {
        return state("ended, with a history", x -> {
            put(x, "bc");
            x.end();
            x.write();
        },
            refusal("put(0)", NOT_POSSIBLE, x -> x.put(0)),
            refusal("put(7)", NOT_POSSIBLE, x -> x.put(7)),
            refusal("end()", NOT_POSSIBLE, x -> x.end()),
            refusal("drop(3)", NOT_POSSIBLE, x -> x.drop(3)),
            refusal("mend(2, 0)", NOT_POSSIBLE, x -> x.mend(2, 0)),
            refusal("letterOf(0, 3)", NOT_POSSIBLE, x -> x.letterOf(0, 3)),
            refusal("letterOf(8, 3)", NOT_POSSIBLE, x -> x.letterOf(8, 3)),
            refusal("letter(2)", NOT_FOUND, x -> x.letter(2)),
            refusal("cost(2)", NOT_FOUND, x -> x.cost(2)),
            refusal("told(2)", NOT_FOUND, x -> x.told(2)));
    }

    private static State fortyLetters() {
        return state("forty letters, 131 bits, a full history, a text with a strange character", x -> {
            x.set(0, 1);
            x.set(1, 2000);
            put(x, "abcdefgh".repeat(5));
            type(x, "111x");
        },
            refusal("put(0)", LIMIT, x -> x.put(0)),
            refusal("put(7)", LIMIT, x -> x.put(7)),
            refusal("mend(40, 0)", NOT_POSSIBLE, x -> x.mend(40, 0)),
            refusal("letter(40)", NOT_FOUND, x -> x.letter(40)),
            refusal("cost(40)", NOT_FOUND, x -> x.cost(40)),
            refusal("write()", LIMIT, x -> x.write()),
            refusal("told(0)", NOT_POSSIBLE, x -> x.told(0)));
    }

    private static State fortyLettersEnded() {
        return state("forty letters, ended, often halved", x -> {
            x.set(1, 32);
            put(x, "aaaaabbh".repeat(5));
            x.end();
        },
            refusal("put(0)", NOT_POSSIBLE, x -> x.put(0)),
            refusal("end()", NOT_POSSIBLE, x -> x.end()),
            refusal("letterOf(3, 3)", NOT_POSSIBLE, x -> x.letterOf(3, 3)),
            refusal("mend(40, 0)", NOT_POSSIBLE, x -> x.mend(40, 0)));
    }

    private static State fullText() {
        return state("an ended empty message, a text of 120 with a strange character, a change undone", x -> {
            x.end();
            x.begin();
            x.undo();
            type(x, "1".repeat(60) + "?" + "0".repeat(59));
        },
            refusal("type(48)", LIMIT, x -> x.type('0')),
            refusal("type(32)", LIMIT, x -> x.type(32)),
            refusal("type(126)", LIMIT, x -> x.type(126)),
            refusal("told(0)", NOT_POSSIBLE, x -> x.told(0)),
            refusal("told(most)", NOT_POSSIBLE, x -> x.told(MOST)),
            refusal("put(0)", NOT_POSSIBLE, x -> x.put(0)),
            refusal("drop(1)", NOT_POSSIBLE, x -> x.drop(1)));
    }

    private static State bitsBehind() {
        return state("bits behind those taken, nothing left to undo", x -> {
            put(x, "d");
            x.undo();
            type(x, "1".repeat(20));
        },
            refusal("undo()", NOT_POSSIBLE, x -> x.undo()),
            refusal("told(0)", NOT_POSSIBLE, x -> x.told(0)),
            refusal("told(40)", NOT_POSSIBLE, x -> x.told(40)));
    }

    private static LearningSpans behind(State state, Refusal refusal, int undone) {
        LearningSpans x = new LearningSpans();
        state.run.accept(x);
        if (refusal != null) {
            due(state.name + ": " + refusal.call, refusal.made.applyAsInt(x), refusal.error);
        }
        for (int time = 0; time < undone; time++) {
            x.undo();
        }
        return x;
    }

    private static void changesNothing(State state, Refusal refusal, List<String> due) {
        for (int undone = 0; undone < due.size(); undone++) {
            same(state.name + ", behind " + refusal.call + " and " + undone + " undone: all answers",
                Look.at(behind(state, refusal, undone)), due.get(undone));
            compared++;
        }
    }

    private static void allRefusals(State state) {
        List<String> due = new ArrayList<>();
        for (int undone = 0; undone <= behind(state, null, 0).count(8); undone++) {
            due.add(Look.at(behind(state, null, undone)));
        }
        for (Refusal refusal : WRONG) {
            changesNothing(state, refusal, due);
        }
        for (Refusal refusal : state.refusals) {
            changesNothing(state, refusal, due);
        }
    }

    public static void main(String[] arguments) {
        wrongArguments();
        for (State state : List.of(aNewOne(), threeLetters(), endedOne(), fortyLetters(), fortyLettersEnded(),
            fullText(), bitsBehind())) {
            allRefusals(state);
        }
        Check.holds("many refusals were looked behind", compared > 1000);
        Check.finish();
    }
}
