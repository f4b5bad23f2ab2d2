import java.util.function.BooleanSupplier;
import java.util.function.LongSupplier;

/** What the tests of edges share: calls that are taken or refused, and the bounds of what there is. */
final class Edges {
    /** A call by one of its arguments. */
    interface Call {
        long of(OneAnswer x, int argument);
    }

    /** What a number may be of. */
    enum Sort {
        WORLD, FACT, HOUSE, QUESTION, ANSWER, STONE;

        int count(OneAnswer x) {
            return switch (this) {
                case WORLD -> x.size(0) == 0 ? 0 : 1 << x.size(0);
                case FACT -> x.size(0);
                case HOUSE -> x.size(2);
                case QUESTION -> x.size(4);
                case ANSWER -> x.size(5);
                case STONE -> x.size(6);
            };
        }
    }

    private static final int[] KEPT = {5, 7, 8, 10, 11, 12};
    private static final int[] BEYOND = {Integer.MIN_VALUE, -2, -1, 0, 1, 2, 3, 4, 6, 8, 12, 20, 32, 64, 256,
        Integer.MAX_VALUE};

    /** No well, the least well, one in between, and one with all that there is room for. */
    private static final String[] TEXTS = {"", Texts.BARE,
        Texts.TWO + ";told h qa yes;told i qb no;stone yes;truth none", Texts.full()};

    private Edges() {
    }

    static void due(String what, long got, long want) {
        Check.due(what, got, want);
    }

    static void so(String what, boolean got) {
        Check.due(what, got, true);
    }

    /** An object with a well of a text that must be sound. */
    static OneAnswer made(String text) {
        return Texts.sound(text);
    }

    /** A call that answers, whatever was refused ahead of it. */
    static void taken(OneAnswer x, String what, LongSupplier call, long want) {
        x.told(-1, 0);
        due(what, call.getAsLong(), want);
        due("trouble of " + what, x.trouble(), 0);
    }

    static void done(OneAnswer x, String what, BooleanSupplier call) {
        taken(x, what, () -> call.getAsBoolean() ? 1 : 0, 1);
    }

    /** A call that answers -1, by its number, and changes nothing. */
    static void refused(OneAnswer x, String what, LongSupplier call, int trouble) {
        refused(x, what, call, -1, trouble);
    }

    /** A call that answers false, by its number, and changes nothing. */
    static void denied(OneAnswer x, String what, BooleanSupplier call, int trouble) {
        refused(x, what, () -> call.getAsBoolean() ? 1 : 0, 0, trouble);
    }

    private static void refused(OneAnswer x, String what, LongSupplier call, long answer, int trouble) {
        String before = state(x);
        if (trouble == 1) {
            x.well(-1);
        } else {
            x.told(-1, 0);
        }
        due(what, call.getAsLong(), answer);
        due("trouble of " + what, x.trouble(), trouble);
        String behind = state(x);
        so(what + " changes nothing: " + before + ", then " + behind, before.equals(behind));
    }

    private static String state(OneAnswer x) {
        StringBuilder state = new StringBuilder();
        for (int what : KEPT) {
            state.append(x.size(what)).append(' ');
        }
        return state.toString();
    }

    /** Refused by 1: numbers below what there is and above it; the first and the last of it are not. */
    static void noneSuch(String what, Sort sort, Call call) {
        noneSuch(what, sort, call, TEXTS, -1);
    }

    /** The same, of texts that have all that the call needs besides. */
    static void noneSuch(String what, Sort sort, Call call, String[] texts) {
        noneSuch(what, sort, call, texts, -1);
    }

    static void noneSuch(String what, Sort sort, Call call, String[] texts, long answer) {
        for (String text : texts) {
            int count = sort.count(begun(text));
            OneAnswer x = begun(text);
            for (int number : BEYOND) {
                if (number < 0 || number >= count) {
                    String name = what + " with " + number + " of " + count;
                    refused(x, name, () -> call.of(x, number), answer, 1);
                }
            }
            for (int number : new int[] {count, count + 1}) {
                refused(x, what + " with " + number + " of " + count, () -> call.of(x, number), answer, 1);
            }
            if (count > 0) {
                inside(begun(text), what, call, 0);
                inside(begun(text), what, call, count - 1);
            }
        }
    }

    private static void inside(OneAnswer x, String what, Call call, int number) {
        x.well(-1);
        call.of(x, number);
        so(what + " with " + number + " isn't refused by 1", x.trouble() != 1 && x.trouble() != 2);
    }

    private static OneAnswer begun(String text) {
        return text.isEmpty() ? new OneAnswer() : made(text);
    }

    /** Refused by 1 without a well, and not with one. */
    static void needsWell(String what, Call call) {
        OneAnswer x = new OneAnswer();
        refused(x, what + " without a well", () -> call.of(x, 0), 1);
        Check.load(x, "well now 5");
        refused(x, what + " behind a fault", () -> call.of(x, 0), 1);
        Check.load(x, Texts.BARE);
        inside(x, what, call, 0);
    }
}
