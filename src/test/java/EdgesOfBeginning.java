import java.lang.reflect.Field;
import java.lang.reflect.Modifier;
import java.util.NoSuchElementException;

/** What stands ahead of the terms: what the class is, as one story with answers by hand, and its constants. */
final class EdgesOfBeginning {
    private static final String LAND = "well now 10;fact wolf odds 2;fact gold odds 5;fact ford odds 9;"
        + "law not (wolf and gold);truth gold,ford;"
        + "house elm first 0 each 10 twins 30;house oak first 5 each 10 twins 0;house yew first 3 each 7 twins 60;"
        + "twin oak 1;ends oak 26;"
        + "question qf ford;question qw wolf;question qg gold;question qs wolf or gold;";
    private static final String STORY = LAND + "told elm qw no;told oak qf no;told yew qf yes;told elm qs yes;"
        + "told yew qw no;stone yes;stone no;weds elm yew";
    private static final int ELM = 0;
    private static final int OAK = 1;
    private static final int YEW = 2;
    private static final int QF = 0;
    private static final int QW = 1;
    private static final int QG = 2;
    private static final int QS = 3;
    private static final int LIFE = 512;

    private EdgesOfBeginning() {
    }

    static void run() {
        theText();
        whatIsKnown();
        answers();
        questions();
        turns();
        acts();
        life();
        constants();
    }

    private static void says(String words) {
        Document.beginning("What it is", words);
    }

    private static void due(String what, long got, long want) {
        Check.due(what, got, want);
    }

    private static OneAnswer story() {
        return Edges.made(STORY);
    }

    private static void theText() {
        OneAnswer x = story();
        says("One answer each generation:");
        due("a generation asks", x.asking(ELM, 0), 0);
        due("then the next one", x.asking(ELM, 1), 10);

        says("facts of a land by odds,");
        due("gold and ford, no wolf", x.odds(6), 8 * 5 * 9);
        due("a wolf alone", x.odds(1), 2 * 5);

        says("laws that hold,");
        due("a wolf and gold", x.canBe(3), 0);
        due("and a ford", x.canBe(7), 0);

        says("what is true,");
        due("gold is there", x.ask(ELM, QG), 1);
        due("a wolf isn't", x.ask(ELM, QW), 0);
        Edges.done(x, "no asking", x::undo);
        Edges.done(x, "none at all", x::undo);

        says("houses that ask a well once each generation,");
        due("three houses", x.size(2), 3);
        due("up to its tenth year elm asked twice, oak once, yew twice", x.turnsTo(10), 2 + 1 + 2);

        says("twice with twins,");
        due("oak's twins", x.asking(OAK, 1), 15);
        due("both of them", x.asking(OAK, 2), 15);

        says("till they end,");
        due("oak's last", x.asking(OAK, 3), 25);
        due("none behind it", x.asking(OAK, 4), -2);

        says("questions,");
        due("four", x.size(4), 4);
        due("wolf or gold, of a wolf alone", x.isSo(QS, 1), 1);

        says("answers that were told,");
        due("five", x.size(5), 5);
        due("oak's was no", x.told(1, 2), 0);

        says("stones with answers without the asking,");
        due("two", x.size(6), 2);

        says("weddings by which houses know what others do,");
        due("elm knows yew's answers", x.kin(ELM), 1 << ELM | 1 << YEW);
        due("oak knows its own", x.kin(OAK), 1 << OAK);

        says("as a text;");
        due("one text tells them all", Check.load(new OneAnswer(), STORY), 3);
        due("and not its first half", Check.load(new OneAnswer(), STORY.substring(0, 150)), -1);
    }

    private static void whatIsKnown() {
        OneAnswer x = story();
        says("which worlds can be;");
        due("six of eight", x.worlds(), 6);

        says("who lies, at least;");
        due("oak says no of the ford, yew yes; elm and yew both say no of the wolf", x.liars(), 1 << OAK);
        due("oak alone makes it so", x.sets(), 1);
        due("oak surely", x.lies(OAK), 2);
        due("yew not", x.lies(YEW), 0);

        says("what can be known by whom, by all;");
        due("elm: no wolf, so gold", x.known(ELM, QG), 1);
        due("oak, turned round, the ford", x.known(OAK, QF), 1);
        due("nothing of gold", x.known(OAK, QG), -2);
        due("three worlds", x.left(OAK), 3);
        due("all: gold", x.knownByAll(QG), 1);
        due("all: no wolf", x.knownByAll(QW), 0);
    }

    private static void answers() {
        OneAnswer x = story();
        says("which answers clash,");
        due("oak's and yew's of the ford", x.clashes(), 1);
        due("oak's", x.told(1, 4), 1);
        due("yew's", x.told(2, 4), 1);
        due("elm's", x.told(0, 4), 0);

        says("which were wasted;");
        due("yew's of the ford, behind oak's turned round", x.led(0), 2);
        due("yew's of the wolf, behind elm's", x.led(1), 4);
        boolean none = false;
        try {
            x.led(2);
        } catch (NoSuchElementException e) {
            none = true;
        }
        Check.due("no other", none, true);

        says("what a stone may have been asked;");
        due("yes: the ford, gold, wolf or gold", x.could(0), 1 << QF | 1 << QG | 1 << QS);
        due("no: the wolf", x.could(1), 1 << QW);
    }

    private static void questions() {
        OneAnswer x = story();
        says("which question is best,");
        due("oak's worlds weigh 360, 90 and 360: gold leaves 450", x.best(OAK), QG);
        due("at most", x.bestLeft(OAK), 450);

        says("which tells theirs too;");
        OneAnswer y = Edges.made(LAND + "law ford;stone yes");
        due("the ford is known and leaves four, the wolf three, whether it is there or not", y.tells(), QW);

        says("the fewest questions till something is known,");
        due("the wolf, then gold", x.fewest(OAK, QS), 2);
        due("the wolf is the first of these", x.first(OAK, QS), QW);

        says("the mean;");
        due("gold first, the wolf then in 450 of 810: 1260 of 810", x.mean(OAK, QS, false), 14);
        due("in lowest terms", x.mean(OAK, QS, true), 9);
    }

    private static void turns() {
        OneAnswer x = story();
        says("whose turn it is when;");
        int[] turns = {ELM, YEW, OAK, ELM, YEW, OAK, OAK, YEW, ELM, YEW, OAK, ELM, YEW, YEW, ELM};
        for (int i = 0; i < turns.length; i++) {
            due("turn " + i, x.turnOf(i), turns[i]);
        }
        due("elm's next is now", x.next(ELM), 10);
        due("oak's", x.next(OAK), 15);
        due("yew's", x.next(YEW), 10);

        says("births by draws;");
        // 149, 11249 and 57305: 49, 49 and 5 in a hundred.
        due("yew's, below 60 all", x.births(YEW, 1, 3), 6);
        due("elm's, below 30 the last", x.births(ELM, 1, 3), 4);
        due("oak's, never: the twins that were told don't count", x.births(OAK, 1, 3), 3);
    }

    private static void acts() {
        OneAnswer x = story();
        says("asked,");
        due("oak asks of gold", x.ask(OAK, QG), 1);
        due("an answer more", x.size(5), 6);

        says("lied,");
        due("oak lies of the ford", x.lie(OAK, QF), 0);
        due("it is told", x.told(6, 2), 0);

        says("wed,");
        Edges.done(x, "oak and elm", () -> x.wed(OAK, ELM));
        due("all are kin", x.kin(YEW), 7);

        says("undoing,");
        Edges.done(x, "no wedding", x::undo);
        due("elm and yew", x.kin(YEW), 5);
        Edges.done(x, "no lie", x::undo);
        due("the question stays asked", x.size(5), 6);

        says("images.");
        due("the first", x.image(), 0);
        due("years go by", x.years(9), 19);
        Edges.done(x, "back", () -> x.back(0));
        due("the year", x.size(8), 10);
        Edges.denied(x, "nothing can be undone", x::undo, 6);
    }

    private static void life() {
        says("An object is used for at most 512 calls after it has been made; what later calls answer is free.");
        OneAnswer x = new OneAnswer();
        int feeds = (STORY.length() + 19) / 20;
        due("three houses", Check.load(x, STORY), 3);
        int round = 8;
        for (int calls = feeds + 1; calls + round <= LIFE; calls += round) {
            due("oak asks", x.ask(OAK, QG), 1);
            due("oak is right once and wrong once", x.liars(), -2);
            due("no set will do", x.sets(), 0);
            due("elm knows", x.fewest(ELM, QW), 0);
            due("an answer more", x.size(5), 6);
            Check.due("undone", x.undo(), true);
            due("oak doesn't", x.fewest(OAK, QS), 2);
            due("the mean", x.mean(OAK, QS, false), 14);
        }
        OneAnswer y = new OneAnswer();
        for (int calls = 0; calls + feeds + 2 <= LIFE; calls += feeds + 2) {
            due("three houses", Check.load(y, STORY), 3);
            due("who lies", y.liars(), 1 << OAK);
        }
    }

    private static void constants() {
        Document.beginning("The constants", "`NONE = -1`: There is none; refused.");
        due("NONE", OneAnswer.NONE, -1);
        OneAnswer x = new OneAnswer();
        due("refused", x.worlds(), OneAnswer.NONE);
        due("there is none", x.where(), OneAnswer.NONE);
        for (Field field : OneAnswer.class.getFields()) {
            int kind = field.getModifiers();
            Check.due(field.getName(), field.getName().equals("NONE") && field.getType() == int.class
                && Modifier.isStatic(kind) && Modifier.isFinal(kind), true);
        }
        due("one constant", OneAnswer.class.getFields().length, 1);
    }
}
