import java.util.NoSuchElementException;

/** Each promise by its number: ordinary inputs, edges, wrong inputs; the answers were found by hand. */
public final class PromisesTest {
    private static final String LAND = "well now 10;fact iron odds 3;fact wood odds 5;fact sea odds 8;"
        + "law iron or wood;truth iron, sea;house ash first 0 each 20 twins 50;"
        + "house birch first 5 each 10 twins 0;house cedar first 30 each 25 twins 10;twin birch 1;"
        + "ends birch 40;question qa iron;question qb wood and sea;question qc not (iron and sea);"
        + "question qd sea;told ash qa yes;told birch qb no;told cedar qd no;told ash qd yes;"
        + "stone yes;stone no;weds ash birch";
    private static final String TWO = Texts.TWO;
    private static final String TORN = Texts.TORN;

    public static void main(String[] args) {
        newObject();
        theWell();
        theFault();
        worlds();
        questionsInWorlds();
        liars();
        known();
        knownMore();
        knownIf();
        answers();
        answersOfTheTorn();
        stones();
        best();
        tells();
        plans();
        turns();
        births();
        ask();
        wedAndYears();
        undo();
        images();
        led();
        size();
        trouble();
        Check.end();
    }

    private static OneAnswer made(String text) {
        OneAnswer x = new OneAnswer();
        Check.due("a well", Check.load(x, text) > 0, true);
        Check.due("trouble of a well", x.trouble(), 0);
        return x;
    }

    private static void due(String what, long got, long want) {
        Check.due(what, got, want);
    }

    private static void refused(OneAnswer x, String what, long got, int trouble) {
        due(what, got, -1);
        due(what + ", trouble", x.trouble(), trouble);
    }

    private static void refused(OneAnswer x, String what, boolean got, int trouble) {
        Check.due(what, got, false);
        due(what + ", trouble", x.trouble(), trouble);
    }

    private static boolean throwsNone(OneAnswer x, int i) {
        try {
            x.led(i);
            return false;
        } catch (NoSuchElementException e) {
            return true;
        }
    }

    // 1
    private static void newObject() {
        OneAnswer x = new OneAnswer();
        due("NONE", OneAnswer.NONE, -1);
        for (int what = 0; what <= 12; what++) {
            due("size of nothing " + what, x.size(what), 0);
        }
        due("trouble", x.trouble(), 0);
        due("fault", x.fault(), 0);
        due("where", x.where(), -1);
        refused(x, "canBe", x.canBe(0), 1);
        refused(x, "worlds", x.worlds(), 1);
        refused(x, "odds", x.odds(0), 1);
        refused(x, "isSo", x.isSo(0, 0), 1);
        refused(x, "chance", x.chance(0, true), 1);
        refused(x, "alike", x.alike(0), 1);
        refused(x, "implies", x.implies(0, 0), 1);
        refused(x, "liars", x.liars(), 1);
        refused(x, "sets", x.sets(), 1);
        refused(x, "lies", x.lies(0), 1);
        refused(x, "kin", x.kin(0), 1);
        refused(x, "left", x.left(0), 1);
        refused(x, "known", x.known(0, 0), 1);
        refused(x, "fact", x.fact(0, 0), 1);
        refused(x, "knownByAll", x.knownByAll(0), 1);
        refused(x, "onlyTogether", x.onlyTogether(), 1);
        refused(x, "bestWedding", x.bestWedding(), 1);
        refused(x, "likeliest", x.likeliest(0), 1);
        refused(x, "chanceOf", x.chanceOf(0, 0, true), 1);
        refused(x, "wouldKnow", x.wouldKnow(0, 0, true), 1);
        refused(x, "needless", x.needless(0), 1);
        refused(x, "undo", x.undo(), 6);
        refused(x, "told", x.told(0, 0), 1);
        refused(x, "clashes", x.clashes(), 1);
        refused(x, "takes", x.takes(0), 1);
        refused(x, "graves", x.graves(0), 1);
        refused(x, "could", x.could(0), 1);
        refused(x, "surely", x.surely(0), 1);
        refused(x, "best", x.best(0), 1);
        refused(x, "bestLeft", x.bestLeft(0), 1);
        refused(x, "leftMean", x.leftMean(0, 0, true), 1);
        refused(x, "tells", x.tells(), 1);
        refused(x, "fewest", x.fewest(0, 0), 1);
        refused(x, "first", x.first(0, 0), 1);
        refused(x, "mean", x.mean(0, 0, true), 1);
        refused(x, "asking", x.asking(0, 100), 1);
        refused(x, "next", x.next(0), 1);
        refused(x, "turnOf", x.turnOf(100), 1);
        refused(x, "turnsTo", x.turnsTo(1000), 1);
        refused(x, "births", x.births(0, -1, 0), 1);
        refused(x, "ask", x.ask(0, 0), 1);
        refused(x, "lie", x.lie(0, 0), 1);
        refused(x, "wed", x.wed(0, 1), 1);
        refused(x, "years", x.years(100), 1);
        refused(x, "image", x.image(), 1);
        refused(x, "back", x.back(0), 1);
        Check.due("led of nothing", throwsNone(x, 0), true);
    }

    // 2, 3
    private static void theWell() {
        OneAnswer x = new OneAnswer();
        for (int i = 1; i <= 45; i++) {
            due("feed", x.feed(0x20202020, 0x20202020, 0x20202020, 0x20202020, 0x20202020), 20 * i);
        }
        due("feed of more than 900", x.feed(1, 2, 3, 4, 5), -1);
        due("no trouble of feed", x.trouble(), 0);
        due("the tape stays", x.size(12), 900);
        refused(x, "well of more than there is", x.well(901), 2);
        refused(x, "well of less than nothing", x.well(-1), 2);
        due("the tape stays", x.size(12), 900);
        refused(x, "well of blanks", x.well(900), 4);
        due("the tape is empty", x.size(12), 0);
        due("where the end is", x.where(), 900);
        Check.feed(x, "well now 10;fact a odds 3;house h first 0 each 2 twins 5;house");
        due("the first bytes alone", x.well(56), 1);
        due("the tape is empty", x.size(12), 0);
        due("now", x.size(8), 10);
        due("an act", x.years(3), 13);
        due("an image", x.image(), 0);
        Check.feed(x, "well now 20;fact a odds 3");
        refused(x, "well without a house", x.well(25), 4);
        due("the well stays", x.size(8), 13);
        due("acts stay", x.size(10), 1);
        due("images stay", x.size(11), 1);
        refused(x, "well of an empty tape", x.well(1), 2);
        due("another well", Check.load(x, LAND), 3);
        due("no acts", x.size(10), 0);
        due("no images", x.size(11), 0);
        refused(x, "nothing to undo", x.undo(), 6);
        refused(x, "none to go back to", x.back(0), 1);
    }

    // 4, 5
    private static void theFault() {
        OneAnswer x = new OneAnswer();
        Check.load(x, "well now 5;fact a odds 0");
        due("fault", x.fault(), 4);
        due("where", x.where(), 23);
        x.feed(0, 0, 0, 0, 0);
        due("where behind feed", x.where(), 23);
        due("where behind size", x.size(0) + x.where(), 23);
        refused(x, "well", x.well(21), 2);
        due("fault stays by 2", x.fault(), 4);
        due("where not by 2", x.where(), -1);
        refused(x, "well of nothing", x.well(0), 4);
        due("fault of nothing", x.fault(), 1);
        due("where nothing is", x.where(), 0);
        x.worlds();
        due("fault stays", x.fault(), 1);
        due("where behind another call", x.where(), -1);
        Check.load(x, TWO);
        due("fault of a well", x.fault(), 0);
        due("where of a well", x.where(), -1);
    }

    // 6, 7, 8
    private static void worlds() {
        OneAnswer x = made(LAND);
        int[] canBe = {0, 1, 1, 1, 0, 1, 1, 1};
        int[] odds = {70, 30, 70, 30, 280, 120, 280, 120};
        for (int world = 0; world < 8; world++) {
            due("canBe " + world, x.canBe(world), canBe[world]);
            due("odds " + world, x.odds(world), odds[world]);
        }
        due("trouble", x.trouble(), 0);
        due("worlds", x.worlds(), 6);
        refused(x, "canBe -1", x.canBe(-1), 1);
        refused(x, "canBe 8", x.canBe(8), 1);
        due("worlds", x.worlds(), 6);
        due("trouble", x.trouble(), 0);
        refused(x, "odds -1", x.odds(-1), 1);
        refused(x, "odds 8", x.odds(8), 1);
        OneAnswer six = made("well now 0;fact a odds 9;fact b odds 9;fact c odds 9;fact d odds 9;"
            + "fact e odds 9;fact f odds 9;house h first 0 each 1 twins 0;law a or f;law not (a and f)");
        due("32 worlds", six.worlds(), 32);
        due("the last world's odds", six.odds(63), 531441);
        due("the first world's", six.odds(0), 1);
        due("the last world", six.canBe(63), 0);
        due("with f alone", six.canBe(32), 1);
        refused(six, "canBe 64", six.canBe(64), 1);
    }

    // 9, 10, 11, 12
    private static void questionsInWorlds() {
        OneAnswer x = made(LAND);
        int[] not = {1, 1, 1, 1, 1, 0, 1, 0};
        for (int world = 0; world < 8; world++) {
            due("isSo " + world, x.isSo(2, world), not[world]);
        }
        refused(x, "isSo of no question", x.isSo(4, 0), 1);
        refused(x, "isSo of question -1", x.isSo(-1, 0), 1);
        refused(x, "isSo in no world", x.isSo(0, 8), 1);
        refused(x, "isSo in world -1", x.isSo(0, -1), 1);
        // of 900: iron 300, less none; of worlds that can be 900 - 70 - 280 - ... = 650
        due("chance", x.chance(0, false), 6);
        due("chance", x.chance(0, true), 13);
        due("trouble", x.trouble(), 0);
        refused(x, "chance of none", x.chance(4, false), 1);
        refused(x, "chance of -1", x.chance(-1, true), 1);
        due("implies", x.implies(1, 3), 1);
        due("implies not", x.implies(3, 1), 0);
        due("implies itself", x.implies(2, 2), 1);
        refused(x, "implies", x.implies(-1, 0), 1);
        refused(x, "implies", x.implies(0, 4), 1);
        OneAnswer y = made("well now 0;fact a odds 2;fact b odds 5;house h first 0 each 1 twins 0;"
            + "question q a;question r a and b;question s not a;question t a or not a;question u b and not b;"
            + "law a or not b;law b or not a");
        due("chance of none", y.chance(4, false), 0);
        due("by 1", y.chance(4, true), 1);
        due("chance of all", y.chance(3, false), 1);
        due("by 1", y.chance(3, true), 1);
        due("chance", y.chance(0, false), 1);
        due("by 5", y.chance(0, true), 5);
        due("alike by laws", y.alike(0), 3);
        due("alike by laws", y.alike(1), 3);
        due("alike none", y.alike(2), 4);
        due("alike all", y.alike(3), 8);
        due("implies by laws", y.implies(0, 1), 1);
        due("the impossible implies all", y.implies(4, 2), 1);
        refused(y, "alike", y.alike(5), 1);
        refused(y, "alike", y.alike(-1), 1);
    }

    // 13, 14, 15
    private static void liars() {
        OneAnswer x = made(LAND);
        due("liars", x.liars(), 1);
        due("sets", x.sets(), 3);
        due("lies in some", x.lies(0), 1);
        due("lies in none", x.lies(1), 0);
        due("lies in some", x.lies(2), 1);
        refused(x, "lies", x.lies(3), 1);
        refused(x, "lies", x.lies(-1), 1);
        OneAnswer y = made(TWO + ";told h qa yes;told i qa no;told j qa no");
        due("the one against two", y.liars(), 1);
        due("sets of it: the one, or the two", y.sets(), 2);
        due("lies in all", y.lies(0), 2);
        due("lies in none", y.lies(1), 0);
        OneAnswer nobody = made(TWO);
        due("liars of no answers", nobody.liars(), 0);
        due("any set", nobody.sets(), 8);
        due("lies in none", nobody.lies(2), 0);
        OneAnswer torn = made(TORN);
        due("nobody can make it so", torn.liars(), -2);
        due("trouble", torn.trouble(), 0);
        due("no sets", torn.sets(), 0);
        due("there are none", torn.lies(1), -2);
        due("trouble", torn.trouble(), 0);
        due("one who says what can't be, turned round", made(TWO + ";told h qa yes;told i qc yes;told i qd no").liars(), 2);
        OneAnswer two = made(TWO + ";question qe a and not a;told i qe yes;told j qe yes");
        due("a set of two", two.liars(), 6);
        due("with the third or without", two.sets(), 2);
        due("in all of the fewest", two.lies(2), 2);
        due("in none of the fewest", two.lies(0), 0);
        due("of like ones the least bits",
            made(TWO + ";told j qa yes;told i qa no;told h qb yes").liars(), 2);
    }

    // 16 .. 20
    private static void known() {
        OneAnswer x = made(LAND);
        due("kin", x.kin(0), 3);
        due("kin", x.kin(1), 3);
        due("kin of nobody else", x.kin(2), 4);
        refused(x, "kin", x.kin(3), 1);
        refused(x, "kin", x.kin(-1), 1);
        due("left", x.left(0), 1);
        due("left", x.left(2), 3);
        refused(x, "left", x.left(3), 1);
        due("known as no", x.known(0, 0), 0);
        due("known as yes", x.known(0, 2), 1);
        due("not known", x.known(2, 0), -2);
        due("trouble", x.trouble(), 0);
        refused(x, "known", x.known(3, 0), 1);
        refused(x, "known", x.known(0, 4), 1);
        refused(x, "known", x.known(0, -1), 1);
        due("fact", x.fact(0, 1), 1);
        due("fact", x.fact(0, 2), 0);
        due("fact not known", x.fact(2, 0), -2);
        refused(x, "fact", x.fact(0, 3), 1);
        refused(x, "fact", x.fact(0, -1), 1);
        refused(x, "fact", x.fact(-1, 0), 1);
        due("knownByAll", x.knownByAll(0), 0);
        due("knownByAll", x.knownByAll(2), 1);
        refused(x, "knownByAll", x.knownByAll(4), 1);
        refused(x, "knownByAll", x.knownByAll(-1), 1);
        OneAnswer chain = made(TWO + ";weds j i;weds h j");
        due("kin of kin", chain.kin(0), 7);
        due("kin of kin", chain.kin(1), 7);
        due("not known by all", chain.knownByAll(0), -2);
        OneAnswer torn = made(TORN);
        due("no worlds left", torn.left(0), 0);
        due("some left", torn.left(1), 2);
        due("all left", torn.left(2), 4);
        due("without worlds nothing is known", torn.known(0, 0), -2);
        due("without worlds no fact is", torn.fact(0, 0), -2);
        due("without worlds all know nothing", torn.knownByAll(1), -2);
        due("one knows", torn.known(1, 1), 1);
    }

    // 21, 22
    private static void knownMore() {
        OneAnswer x = made(TWO + ";told h qa yes;told i qb yes");
        due("onlyTogether", x.onlyTogether(), 4);
        due("bestWedding", x.bestWedding(), 1);
        Check.due("wed", x.wed(1, 0), true);
        due("known by them, not only together", x.onlyTogether(), 0);
        due("the first of those that gain nothing", x.bestWedding(), 2);
        Check.due("wed", x.wed(1, 2), true);
        due("all are kin", x.bestWedding(), -2);
        due("trouble", x.trouble(), 0);
        due("the later two gain more", made(TWO + ";told i qa yes;told j qb yes").bestWedding(), 12);
        due("kin bring all they know",
            made(TWO + ";told i qa yes;told j qb yes;weds h i").bestWedding(), 2);
        due("what one of them knew is no gain", made(TWO + ";house k first 0 each 1 twins 0;"
            + "told h qa yes;told h qb yes;told i qa yes;told j qb yes").bestWedding(), 12);
        due("the torn know nothing together", made(TORN).onlyTogether(), 0);
    }

    // 23 .. 26
    private static void knownIf() {
        OneAnswer x = made(LAND);
        due("likeliest", x.likeliest(2), 2);
        refused(x, "likeliest", x.likeliest(3), 1);
        due("the first of like ones", made(TWO).likeliest(0), 0);
        due("likeliest of none", made(TORN).likeliest(0), -2);
        due("chanceOf", x.chanceOf(2, 0, false), 6);
        due("chanceOf", x.chanceOf(2, 0, true), 13);
        due("chanceOf none", x.chanceOf(2, 1, false), 0);
        due("by 1", x.chanceOf(2, 1, true), 1);
        refused(x, "chanceOf", x.chanceOf(3, 0, true), 1);
        refused(x, "chanceOf", x.chanceOf(0, 4, true), 1);
        OneAnswer torn = made(TORN);
        refused(torn, "chanceOf without worlds", torn.chanceOf(0, 0, false), 6);
        refused(torn, "chanceOf no question", torn.chanceOf(0, 4, false), 1);
        due("wouldKnow", x.wouldKnow(2, 0, true), 15);
        due("it can't be", x.wouldKnow(0, 0, true), -2);
        due("trouble", x.trouble(), 0);
        due("it is known already", x.wouldKnow(0, 0, false), 15);
        refused(x, "wouldKnow", x.wouldKnow(3, 0, false), 1);
        refused(x, "wouldKnow", x.wouldKnow(0, 4, false), 1);
        OneAnswer y = made(TWO);
        due("a yes", y.wouldKnow(0, 0, true), 9);
        due("a no", y.wouldKnow(0, 0, false), 5);
        due("both", y.wouldKnow(0, 2, true), 15);
        due("not both", y.wouldKnow(0, 2, false), 4);
        due("without worlds", torn.wouldKnow(0, 1, true), -2);
        due("needless", x.needless(0), 10);
        due("needless", x.needless(1), 10);
        due("needless", x.needless(2), 0);
        refused(x, "needless", x.needless(3), 1);
        due("the same twice", made(TWO + ";told i qb no;told h qa yes;told h qa yes").needless(0), 6);
        due("others' don't count", made(TWO + ";told i qb no;told h qa yes;told h qa yes").needless(1), 0);
    }

    // 27 .. 30
    private static void answers() {
        OneAnswer x = made(LAND);
        int[][] rows = {{0, 0, 1, 0, 0}, {1, 1, 0, 0, 0}, {2, 3, 0, 1, 1}, {0, 3, 1, 1, 1}};
        for (int k = 0; k < 4; k++) {
            for (int what = 0; what < 5; what++) {
                due("told " + k + " " + what, x.told(k, what), rows[k][what]);
            }
        }
        refused(x, "told 4", x.told(4, 0), 1);
        refused(x, "told -1", x.told(-1, 0), 1);
        refused(x, "told what 5", x.told(0, 5), 1);
        refused(x, "told what -1", x.told(0, -1), 1);
        due("clashes", x.clashes(), 1);
        due("takes", x.takes(0), 4);
        due("takes", x.takes(1), 1);
        due("takes", x.takes(3), 0);
        refused(x, "takes", x.takes(4), 1);
        refused(x, "takes", x.takes(-1), 1);
        due("graves", x.graves(0), 2);
        due("graves", x.graves(1), 0);
        due("graves", x.graves(2), 0);
        refused(x, "graves", x.graves(3), 1);
        refused(x, "graves", x.graves(-1), 1);
    }

    private static void answersOfTheTorn() {
        OneAnswer x = made(TORN);
        due("takes", x.takes(0), 2);
        due("takes the rest", x.takes(1), 2);
        due("nothing is left to take", x.takes(2), 0);
        due("clashes", x.clashes(), 1);
        due("clashes with the other", x.told(0, 4), 1);
        due("clashes with none", x.told(2, 4), 0);
        OneAnswer never = made(TWO + ";question qe a and not a;told h qe yes;told i qa yes;told j qb no");
        due("what can't be clashes with all", never.told(0, 4), 2);
        due("in pairs", never.clashes(), 2);
        due("and was told by a liar", never.liars(), 1);
        due("so that it takes nothing", never.takes(0), 0);
    }

    // 31, 32
    private static void stones() {
        OneAnswer x = made(LAND);
        due("could", x.could(0), 4);
        due("surely", x.surely(0), 4);
        due("could", x.could(1), 11);
        due("surely", x.surely(1), 11);
        refused(x, "could", x.could(2), 1);
        refused(x, "could", x.could(-1), 1);
        refused(x, "surely", x.surely(2), 1);
        refused(x, "surely", x.surely(-1), 1);
        OneAnswer y = made(TWO + ";stone yes;stone no;stone no;stone yes;told h qa yes");
        due("could be yes", y.could(0), 15);
        due("surely yes", y.surely(0), 9);
        due("could be no", y.could(1), 6);
        due("surely no", y.surely(1), 0);
        due("the last stone", y.could(3), 15);
        OneAnswer torn = made(TORN + ";stone yes;stone no");
        due("could nothing", torn.could(0), 0);
        due("surely nothing", torn.surely(0), 0);
        due("surely nothing", torn.surely(1), 0);
    }

    // 33, 34, 35
    private static void best() {
        OneAnswer x = made(LAND);
        due("best", x.best(2), 0);
        due("bestLeft", x.bestLeft(2), 70);
        due("leftMean", x.leftMean(2, 0, false), 850);
        due("leftMean", x.leftMean(2, 0, true), 13);
        due("leftMean of what is known", x.leftMean(2, 1, false), 130);
        due("leftMean of what is known", x.leftMean(2, 1, true), 1);
        refused(x, "best", x.best(3), 1);
        refused(x, "bestLeft", x.bestLeft(-1), 1);
        refused(x, "leftMean", x.leftMean(3, 0, false), 1);
        refused(x, "leftMean", x.leftMean(0, 4, false), 1);
        OneAnswer y = made("well now 0;fact a odds 2;fact b odds 6;house h first 0 each 1 twins 0;"
            + "question q a;question r b;question s not b");
        due("the first of the best", y.best(0), 1);
        due("its worse answer", y.bestLeft(0), 60);
        due("leftMean", y.leftMean(0, 1, false), 52);
        due("leftMean", y.leftMean(0, 1, true), 1);
        due("leftMean", y.leftMean(0, 0, false), 68);
        OneAnswer none = made("well now 0;fact a odds 2;house h first 0 each 1 twins 0");
        due("best of no questions", none.best(0), -2);
        due("trouble", none.trouble(), 0);
        refused(none, "bestLeft of none", none.bestLeft(0), 6);
        refused(none, "bestLeft of no house", none.bestLeft(1), 1);
        OneAnswer torn = made(TORN);
        due("best without worlds", torn.best(0), 0);
        due("bestLeft without worlds", torn.bestLeft(0), 0);
        due("trouble", torn.trouble(), 0);
        refused(torn, "leftMean without worlds", torn.leftMean(0, 0, false), 6);
        due("six facts, the greatest mean", made("well now 0;fact a odds 9;fact b odds 9;fact c odds 9;"
            + "fact d odds 9;fact e odds 9;fact f odds 9;house h first 0 each 1 twins 0;"
            + "question q a and b and c and d and e and f").leftMean(0, 0, false),
            (531441L * 531441 + 468559L * 468559) / 2);
    }

    // 36
    private static void tells() {
        // whatever is asked, the one answer or the other leaves the stone all four
        due("the first of like ones", made(TWO + ";stone yes").tells(), 0);
        due("the first of like ones", made(TWO + ";stone no").tells(), 0);
        // by qa, yes or no, four and two; by qc four if yes, but three and four if no
        String land = "well now 0;fact a odds 5;fact b odds 5;house h first 0 each 1 twins 0;"
            + "question qc a and b;question qa a;question qb b;question qd a or b";
        due("one stone behind another", made(land + ";stone yes;stone no").tells(), 1);
        due("qa is known: by qb four, by qc four", made(land + ";stone yes;stone no;told h qa yes").tells(), 0);
        due("qc is known not to be: by qa six at most", made(land + ";stone yes;stone no;told h qc no").tells(), 1);
        due("without stones", made(TWO).tells(), 0);
        due("without worlds", made(TORN + ";stone yes").tells(), 0);
        OneAnswer none = made("well now 0;fact a odds 2;house h first 0 each 1 twins 0;stone no");
        due("without questions", none.tells(), -2);
        due("trouble", none.trouble(), 0);
    }

    // 37, 38, 39
    private static void plans() {
        OneAnswer x = made("well now 0;fact a odds 5;fact b odds 5;fact c odds 2;house h first 0 each 1 twins 0;"
            + "question x a;question y b;question z a and b and c;question w c");
        due("fewest", x.fewest(0, 2), 3);
        due("first", x.first(0, 2), 0);
        due("mean", x.mean(0, 2, false), 13);
        due("mean", x.mean(0, 2, true), 10);
        due("not enough", x.fewest(0, 0), -2);
        due("trouble", x.trouble(), 0);
        due("no first", x.first(0, 0), -2);
        refused(x, "no mean", x.mean(0, 0, false), 6);
        refused(x, "fewest", x.fewest(1, 0), 1);
        refused(x, "fewest", x.fewest(0, 4), 1);
        refused(x, "first", x.first(-1, 0), 1);
        refused(x, "first", x.first(0, -1), 1);
        refused(x, "mean", x.mean(1, 0, true), 1);
        refused(x, "mean", x.mean(0, 4, true), 1);
        // y leaves x or z to ask, by its answer: one question more in either case
        OneAnswer y = made("well now 0;fact a odds 5;fact b odds 5;fact c odds 5;house h first 0 each 1 twins 0;"
            + "question s (b and a) or (not b and c);question x a;question y b;question z c");
        due("as answers come", y.fewest(0, 0), 2);
        due("the first such", y.first(0, 0), 2);
        due("mean", y.mean(0, 0, false), 2);
        due("mean", y.mean(0, 0, true), 1);
        OneAnswer alike = made(TWO + ";question qe not a;told i qa yes");
        due("another that is alike may be asked", alike.fewest(0, 0), 1);
        due("it is the first", alike.first(0, 0), 4);
        due("known already", alike.fewest(1, 0), 0);
        due("no first", alike.first(1, 0), -2);
        due("no mean", alike.mean(1, 0, false), 0);
        due("by 1", alike.mean(1, 0, true), 1);
        OneAnswer torn = made(TORN);
        due("without worlds", torn.fewest(0, 0), -2);
        due("without worlds", torn.first(0, 0), -2);
        refused(torn, "without worlds", torn.mean(0, 0, true), 6);
        // four questions one by one in the worst case, but the mean takes the unlikely one first
        OneAnswer z = made("well now 0;fact a odds 9;fact b odds 9;fact c odds 9;fact d odds 1;"
            + "house h first 0 each 1 twins 0;question t a and b and c and d;"
            + "question x a;question y b;question z c;question w d");
        due("fewest", z.fewest(0, 0), 4);
        due("first", z.first(0, 0), 1);
        due("1 and 0.1 times (1 and 0.9 times 1.9)", z.mean(0, 0, false), 1271);
        due("by 1000", z.mean(0, 0, true), 1000);
        // the worst case begins with x or y, the mean with the likely w
        OneAnswer v = made("well now 0;fact a odds 5;fact b odds 5;fact c odds 9;house h first 0 each 1 twins 0;"
            + "question t c or (a and b);question x a;question y b;question w c");
        due("fewest", v.fewest(0, 0), 3);
        due("mean", v.mean(0, 0, false), 23);
        due("by 20", v.mean(0, 0, true), 20);
    }

    // 40 .. 43
    private static void turns() {
        OneAnswer x = made(LAND);
        int[] birch = {5, 15, 15, 25, 35, -2, -2};
        for (int i = 0; i < birch.length; i++) {
            due("asking " + i, x.asking(1, i), birch[i]);
        }
        due("the last asking", x.asking(2, 99), 30 + 25 * 99);
        refused(x, "asking", x.asking(0, 100), 2);
        refused(x, "asking", x.asking(0, -1), 2);
        refused(x, "asking", x.asking(3, -1), 1);
        due("next", x.next(0), 20);
        due("next", x.next(1), 15);
        due("next", x.next(2), 30);
        refused(x, "next", x.next(3), 1);
        due("ten years", x.years(10), 20);
        due("next is now", x.next(0), 20);
        due("twenty", x.years(20), 40);
        due("next at the end", x.next(1), -2);
        due("trouble", x.trouble(), 0);
        int[] turns = {0, 1, 1, 1, 0, 1, 2, 1, 0, 2, 0, 0, 2};
        for (int i = 0; i < turns.length; i++) {
            due("turnOf " + i, x.turnOf(i), turns[i]);
        }
        // six turns in three years, then five in each two: eighteen times, and the fourth of those
        due("the last turn that is told of", made(TWO).turnOf(99), 0);
        due("the one ahead of it", made(TWO).turnOf(98), 2);
        refused(x, "turnOf", x.turnOf(100), 2);
        refused(x, "turnOf", x.turnOf(-1), 2);
        due("turnsTo", x.turnsTo(0), 1);
        due("turnsTo", x.turnsTo(14), 2);
        due("turnsTo", x.turnsTo(15), 4);
        due("turnsTo", x.turnsTo(80), 13);
        // ash 50, birch 5, cedar 39
        due("turnsTo", x.turnsTo(999), 94);
        refused(x, "turnsTo", x.turnsTo(1000), 2);
        refused(x, "turnsTo", x.turnsTo(-1), 2);
        OneAnswer end = made("well now 9;fact a odds 2;house h first 3 each 4 twins 0;house i first 5 each 1 twins 0;"
            + "ends h 7;twin h 0;ends i 5;twin i 30");
        due("one generation, of twins", end.asking(0, 1), 3);
        due("none in the year in which it ends", end.asking(0, 2), -2);
        due("none at all", end.asking(1, 0), -2);
        due("no next", end.next(0), -2);
        due("turnOf", end.turnOf(1), 0);
        due("there is none", end.turnOf(2), -2);
        due("turnsTo", end.turnsTo(999), 2);
        due("turnsTo the year in which it ends", end.turnsTo(7), 2);
        due("turnsTo", end.turnsTo(3), 2);
        due("turnsTo", end.turnsTo(2), 0);
        OneAnswer late = made("well now 999;fact a odds 2;house h first 0 each 32 twins 0;twin h 30;twin h 0");
        due("twins of the thirtieth generation", late.asking(0, 31), 960);
        due("twice", late.asking(0, 32), 960);
        due("then once", late.asking(0, 33), 992);
        due("next is behind 999", late.next(0), 1024);
        due("to the thirtieth", late.turnsTo(960), 33);
        due("ahead of it", late.turnsTo(959), 31);
    }

    // 44
    private static void births() {
        OneAnswer x = made(LAND);
        // the draws from 1 are 149, 11249, 57305
        due("births", x.births(0, 1, 3), 6);
        due("no twins, told ones don't count", x.births(1, 1, 3), 3);
        due("births", x.births(2, 1, 3), 4);
        due("the first draw", x.births(2, 1, 1), 1);
        due("49 isn't below 49", made("well now 0;fact a odds 5;house h first 0 each 1 twins 49").births(0, 1, 1), 1);
        due("it is below 50", made("well now 0;fact a odds 5;house h first 0 each 1 twins 50").births(0, 1, 1), 2);
        due("no generations", x.births(0, 1, 0), 0);
        due("the greatest seed", x.births(0, 65536, 99), 198);
        due("the least seed", x.births(0, 0, 1), 1);
        due("trouble", x.trouble(), 0);
        refused(x, "births", x.births(0, 65537, 1), 2);
        refused(x, "births", x.births(0, -1, 1), 2);
        refused(x, "births", x.births(0, 1, 100), 2);
        refused(x, "births", x.births(0, 1, -1), 2);
        refused(x, "births", x.births(3, 1, -1), 1);
    }

    // 45, 46
    private static void ask() {
        OneAnswer x = made(LAND);
        due("ask", x.ask(2, 0), 1);
        due("trouble", x.trouble(), 0);
        due("ask", x.ask(1, 1), 0);
        due("lie", x.lie(1, 0), 0);
        due("lie", x.lie(1, 1), 1);
        due("answers", x.size(5), 8);
        due("its house", x.told(4, 0), 2);
        due("its question", x.told(5, 1), 1);
        due("as it was told", x.told(6, 2), 0);
        due("as it was told", x.told(7, 2), 1);
        due("graves", x.graves(1), 1);
        refused(x, "ask", x.ask(3, 0), 1);
        refused(x, "ask", x.ask(0, 4), 1);
        refused(x, "lie", x.lie(-1, 0), 1);
        refused(x, "lie", x.lie(0, -1), 1);
        for (int i = 8; i < 20; i++) {
            due("ask on", x.ask(0, 0), 1);
        }
        refused(x, "ask with 20 told", x.ask(0, 0), 3);
        refused(x, "lie with 20 told", x.lie(0, 0), 3);
        refused(x, "ask of none with 20 told", x.ask(0, 4), 1);
        due("the last one needless, too", x.needless(0) >> 19, 1);
        OneAnswer y = made(TWO);
        refused(y, "ask without truth", y.ask(0, 0), 6);
        refused(y, "lie without truth", y.lie(0, 0), 6);
        refused(y, "ask of none", y.ask(0, 4), 1);
        OneAnswer z = made(TWO + ";truth none");
        due("of no facts", z.ask(0, 0), 0);
        due("who lies is found anew", z.lie(1, 0), 1);
        due("the first of two", z.liars(), 1);
        due("asked again", z.ask(2, 0), 0);
        due("the other", z.liars(), 2);
    }

    // 47, 48
    private static void wedAndYears() {
        OneAnswer x = made(LAND);
        refused(x, "wed already", x.wed(0, 1), 5);
        refused(x, "wed already, turned", x.wed(1, 0), 5);
        refused(x, "wed to itself", x.wed(2, 2), 1);
        refused(x, "wed", x.wed(0, 3), 1);
        refused(x, "wed", x.wed(-1, 0), 1);
        Check.due("kin that aren't wed", x.wed(2, 1), true);
        due("trouble", x.trouble(), 0);
        due("kin", x.kin(0), 7);
        Check.due("kin may wed", x.wed(0, 2), true);
        due("weddings", x.size(7), 3);
        refused(x, "wed by an act already", x.wed(1, 2), 5);
        due("years", x.years(1), 11);
        due("years", x.years(99), 110);
        refused(x, "no years", x.years(0), 2);
        refused(x, "too many", x.years(100), 2);
        for (int i = 0; i < 8; i++) {
            x.years(99);
        }
        due("now", x.size(8), 902);
        refused(x, "above 999", x.years(98), 3);
        due("999", x.years(97), 999);
        refused(x, "above 999", x.years(1), 3);
        refused(x, "a number first", x.years(100), 2);
    }

    // 49
    private static void undo() {
        OneAnswer x = made(LAND);
        x.ask(2, 3);
        due("an honest answer more", x.told(4, 2), 1);
        x.wed(1, 2);
        x.years(5);
        due("acts", x.size(10), 3);
        Check.due("undo years", x.undo(), true);
        due("now", x.size(8), 10);
        due("kin yet", x.kin(0), 7);
        Check.due("undo the wedding", x.undo(), true);
        due("kin no more", x.kin(0), 3);
        due("weddings", x.size(7), 1);
        due("answers yet", x.size(5), 5);
        due("it can't be one who says both", x.liars(), -2);
        Check.due("undo the answer", x.undo(), true);
        due("trouble", x.trouble(), 0);
        due("answers", x.size(5), 4);
        due("liars are as they were", x.liars(), 1);
        refused(x, "nothing to undo", x.undo(), 6);
        for (int i = 0; i < 13; i++) {
            x.years(i + 1);
        }
        due("12 are kept", x.size(10), 12);
        for (int i = 0; i < 12; i++) {
            Check.due("undo", x.undo(), true);
        }
        refused(x, "the thirteenth", x.undo(), 6);
        due("the first year stays", x.size(8), 11);
        x.years(1);
        x.wed(0, 2);
        for (int i = 0; i < 5; i++) {
            x.ask(i % 2, i % 4);
            x.years(2 + i);
        }
        x.wed(1, 2);
        due("12 are kept", x.size(10), 12);
        for (int i = 0; i < 11; i++) {
            Check.due("undo", x.undo(), true);
        }
        due("answers", x.size(5), 4);
        due("now", x.size(8), 12);
        due("the first wedding yet", x.kin(0), 7);
        Check.due("the twelfth", x.undo(), true);
        due("is the wedding", x.kin(0), 3);
        refused(x, "the thirteenth is gone", x.undo(), 6);
        due("now", x.size(8), 12);
        refused(x, "refused acts aren't kept", x.wed(0, 1), 5);
        refused(x, "nothing to undo", x.undo(), 6);
    }

    // 50, 51
    private static void images() {
        OneAnswer x = made(LAND);
        due("image", x.image(), 0);
        x.lie(2, 0);
        x.wed(0, 2);
        x.years(7);
        due("image", x.image(), 1);
        due("images are no acts", x.size(10), 3);
        x.undo();
        due("image", x.image(), 2);
        refused(x, "no room", x.image(), 3);
        refused(x, "back", x.back(3), 1);
        refused(x, "back", x.back(-1), 1);
        Check.due("back", x.back(0), true);
        due("trouble", x.trouble(), 0);
        due("answers", x.size(5), 4);
        due("weddings", x.size(7), 1);
        due("now", x.size(8), 10);
        due("liars", x.liars(), 1);
        refused(x, "nothing can be undone", x.undo(), 6);
        due("all images stay", x.size(11), 3);
        x.ask(0, 0);
        Check.due("back", x.back(1), true);
        due("now", x.size(8), 17);
        due("answers", x.size(5), 5);
        due("the lie", x.told(4, 2), 0);
        due("kin", x.kin(0), 7);
        Check.due("back", x.back(2), true);
        due("now", x.size(8), 10);
        due("kin", x.kin(0), 7);
        x.ask(1, 0);
        Check.due("an image isn't changed by acts", x.back(2), true);
        due("answers", x.size(5), 5);
        refused(x, "no room", x.image(), 3);
    }

    // 52
    private static void led() {
        OneAnswer x = made(LAND);
        due("led", x.led(0), 2);
        due("led", x.led(1), 3);
        Check.due("led 2", throwsNone(x, 2), true);
        Check.due("led -1", throwsNone(x, -1), true);
        refused(x, "another call", x.kin(9), 1);
        due("led", x.led(0), 2);
        due("led leaves trouble alone", x.trouble(), 1);
        Check.due("none is wasted", throwsNone(made(TWO + ";told h qa yes"), 0), true);
    }

    // 53
    private static void size() {
        OneAnswer x = made(LAND);
        int[] sizes = {3, 1, 3, 1, 4, 4, 2, 1, 10, 1, 0, 0, 0};
        for (int what = 0; what < sizes.length; what++) {
            due("size " + what, x.size(what), sizes[what]);
        }
        due("size 13", x.size(13), -1);
        due("size -1", x.size(-1), -1);
        x.feed(1, 2, 3, 4, 5);
        x.ask(0, 0);
        x.image();
        due("answers", x.size(5), 5);
        due("acts", x.size(10), 1);
        due("images", x.size(11), 1);
        due("the tape", x.size(12), 20);
        due("no truth", made(TWO).size(9), 0);
        due("truth none", made(TWO + ";truth none").size(9), 1);
    }

    // 54
    private static void trouble() {
        OneAnswer x = made(LAND);
        x.kin(-1);
        x.size(99);
        x.fault();
        x.where();
        x.feed(0, 0, 0, 0, 0);
        due("calls that no number is told of leave it", x.trouble(), 1);
        due("so does asking for it", x.trouble(), 1);
        x.asking(0, 100);
        due("a number", x.trouble(), 2);
        x.fewest(2, 0);
        due("-2 is an answer", x.trouble(), 0);
        x.wed(0, 1);
        due("not so", x.trouble(), 5);
        x.well(1);
        due("a fault", x.trouble(), 4);
        x.undo();
        due("there is none", x.trouble(), 6);
    }
}
