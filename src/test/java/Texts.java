/** Texts that the tests share, whole and not yet whole, and what is due of one: a fault at a mark, or none. */
final class Texts {
    /** Of these three the last line is still to come. */
    static final String FACTS = "well now 5;fact a odds 5;fact b odds 5;";
    static final String HOUSES = FACTS + "house h first 0 each 9 twins 0;house i first 0 each 9 twins 0;";
    static final String QUESTIONS = HOUSES + "question q a or b;question r b;";
    /** A line with which a text of facts is whole. */
    static final String HOUSE = "house z first 0 each 1 twins 0";

    /** Two facts, three houses, four questions; whole. */
    static final String TWO = "well now 0;fact a odds 5;fact b odds 5;"
        + "house h first 0 each 1 twins 0;house i first 0 each 1 twins 0;house j first 3 each 2 twins 7;"
        + "question qa a;question qb b;question qc a and b;question qd a or b";
    /** No house, however it lies, can have told this: it says yes and no of one question. */
    static final String TORN = TWO + ";told h qa yes;told h qa no;told i qb yes";
    /** One fact and one house, and nothing else. */
    static final String BARE = "well now 0;fact a odds 2;house h first 0 each 1 twins 0";

    private Texts() {
    }

    /** A ^ marks the place of the fault; it isn't fed. */
    static void fault(int number, String marked) {
        int place = marked.indexOf('^');
        String text = marked.substring(0, place) + marked.substring(place + 1);
        OneAnswer x = new OneAnswer();
        Check.due("well " + marked, Check.load(x, text), -1);
        Check.due("trouble " + marked, x.trouble(), 4);
        Check.due("fault " + marked, x.fault(), number);
        Check.due("where " + marked, x.where(), place);
    }

    static OneAnswer sound(String text) {
        OneAnswer x = new OneAnswer();
        Check.load(x, text);
        Check.due("fault of " + text + " at " + x.where(), x.fault(), 0);
        return x;
    }

    static String times(int n, String text) {
        return text.repeat(n);
    }

    /** Lines of one sort, one for each letter, each with its ; behind it. */
    static String each(String letters, String ahead, String behind) {
        StringBuilder lines = new StringBuilder();
        for (char letter : letters.toCharArray()) {
            lines.append(ahead).append(letter).append(behind).append(';');
        }
        return lines.toString();
    }

    /** As many lines of each sort as there may be: facts a to f, houses g to l, questions m to t. */
    static String full() {
        return "well now 5;" + each("abcdef", "fact ", " odds 5") + times(6, "law a;") + "truth a;"
            + each("ghijkl", "house ", " first 0 each 1 twins 0") + each("012345", "twin g ", "")
            + each("ghijkl", "ends ", " 9") + each("mnopqrst", "question ", " a")
            + times(12, "told g m yes;") + times(4, "stone no;") + each("hijkl", "weds g ", "")
            + each("ijk", "weds h ", "").replaceAll(";$", "");
    }
}
