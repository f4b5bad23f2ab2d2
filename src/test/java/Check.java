import java.util.function.LongSupplier;

/** What the tests share: answers that are compared and counted, and texts that are fed. */
final class Check {
    private static int done;
    private static int wrong;
    private static String about = "";

    private Check() {
    }

    static void due(String what, long got, long want) {
        done++;
        if (got != want) {
            wrong++;
            if (wrong <= 50) {
                System.out.println(about + what + " answered " + got + ", due is " + want);
            }
        }
    }

    static void due(String what, boolean got, boolean want) {
        due(what, got ? 1 : 0, want ? 1 : 0);
    }

    /** What stands ahead of the answers that are wrong from here on. */
    static void about(String words) {
        about = words;
    }

    static int done() {
        return done;
    }

    static boolean soFarSo() {
        return wrong == 0;
    }

    static void end() {
        System.out.println(done + " answers compared, " + wrong + " wrong");
        if (wrong != 0 || done == 0) {
            System.exit(1);
        }
    }

    /** Feeds a text, filled up with blanks, and makes a well of it. */
    static int load(OneAnswer x, String text) {
        feed(x, text);
        return x.well(text.length());
    }

    static void feed(OneAnswer x, String text) {
        for (int at = 0; at < text.length(); at += 20) {
            x.feed(number(text, at), number(text, at + 4), number(text, at + 8),
                number(text, at + 12), number(text, at + 16));
        }
    }

    private static int number(String text, int at) {
        int number = 0;
        for (int i = at; i < at + 4; i++) {
            number = number << 8 | (i < text.length() ? text.charAt(i) & 255 : 32);
        }
        return number;
    }

    /** A call that must be refused by a number: its answer and its trouble. */
    static void refused(OneAnswer x, String what, LongSupplier call, long answer, int trouble) {
        due(what, call.getAsLong(), answer);
        due(what + " trouble", x.trouble(), trouble);
    }
}
