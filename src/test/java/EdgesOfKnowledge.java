/** Promises 16 to 39, sentence by sentence: what is known, answers, stones, questions. */
final class EdgesOfKnowledge {
    private static final String TWO = Texts.TWO;
    private static final String TORN = Texts.TORN;
    private static final String BARE = Texts.BARE;
    private static final String SIX = "well now 0;fact a odds 5;fact b odds 5;"
        + Texts.each("ghijkl", "house ", " first 0 each 1 twins 0")
        + "question qa a;question qb b;question qc a and b;";
    /** Questions that don't tell enough of each other. */
    private static final String APART = "well now 0;fact a odds 5;fact b odds 5;fact c odds 5;" + Texts.HOUSE
        + ";question qa a;question qb b;question qc b and c";

    private EdgesOfKnowledge() {
    }

    static void run() {
        kin();
        known();
        onlyTogether();
        bestWedding();
        likeliest();
        wouldKnow();
        needless();
        told();
        taken();
        stones();
        best();
        leftMean();
        tells();
        fewest();
        mean();
    }

    private static void says(int promise, String words) {
        Document.promise(promise, words);
    }

    private static OneAnswer made(String text) {
        return Edges.made(text);
    }

    private static void due(String what, long got, long want) {
        Check.due(what, got, want);
    }

    private static void kin() {
        says(16, "HOUSES whose answers a HOUSE knows, as bits.");
        OneAnswer x = made(SIX + "weds g i;weds l i;weds h k");
        int[] kin = {0b100101, 0b010010, 0b100101, 0b001000, 0b010010, 0b100101};
        for (int house = 0; house < 6; house++) {
            int h = house;
            Edges.taken(x, "kin of " + house, () -> x.kin(h), kin[house]);
        }
        due("itself alone", made(BARE).kin(0), 1);
        due("all six", made(SIX + "weds l k;weds k j;weds j i;weds i h;weds h g").kin(0), 63);
        due("all six from the last", made(SIX + "weds l k;weds k j;weds j i;weds i h;weds h g").kin(5), 63);
        due("all six from the midst", made(SIX + "weds g l;weds l h;weds h k;weds k i;weds i j").kin(3), 63);

        says(16, "NONE: 1.");
        Edges.noneSuch("kin", Edges.Sort.HOUSE, (y, house) -> y.kin(house));

        says(17, "How many WORLDS can be by what is KNOWN by a HOUSE.");
        OneAnswer y = made(SIX + "told g qa yes;told h qb no;weds h i;told j qc yes;told j qc no");
        due("by its own", y.left(0), 2);
        due("by kin", y.left(2), 2);
        Edges.taken(y, "none", () -> y.left(3), 0);
        Edges.taken(y, "all", () -> y.left(4), 4);
        due("of six facts", made("well now 0;" + Texts.each("abcdef", "fact ", " odds 5") + Texts.HOUSE).left(0), 64);
        due("one", made(TWO + ";told h qc yes").left(0), 1);

        says(17, "NONE: 1.");
        Edges.noneSuch("left", Edges.Sort.HOUSE, (z, house) -> z.left(house));
    }

    private static void known() {
        says(18, "A question, KNOWN by a HOUSE: 1 yes, 0 no, -2 it isn't known.");
        OneAnswer y = made(TWO + ";told h qa yes;told h qb no");
        int[] known = {1, 0, 0, 1};
        for (int question = 0; question < 4; question++) {
            int q = question;
            Edges.taken(y, "known " + question, () -> y.known(0, q), known[question]);
            Edges.taken(y, "not known " + question, () -> y.known(1, q), -2);
        }
        due("without worlds", made(TORN).known(0, 0), -2);
        due("by a law", made(TWO + ";law a").known(2, 0), 1);

        says(18, "NONE: 1.");
        Edges.noneSuch("known by a house", Edges.Sort.HOUSE, (z, house) -> z.known(house, 3),
            new String[] {TWO, Texts.full()});
        Edges.noneSuch("a known question", Edges.Sort.QUESTION, (z, question) -> z.known(0, question));

        says(19, "A FACT, likewise.");
        OneAnswer facts = made(TWO + ";told h qa yes;told i qb no");
        Edges.taken(facts, "yes", () -> facts.fact(0, 0), 1);
        Edges.taken(facts, "not known", () -> facts.fact(0, 1), -2);
        Edges.taken(facts, "no", () -> facts.fact(1, 1), 0);
        due("without worlds", made(TORN).fact(0, 0), -2);
        due("the sixth", made(Texts.full()).fact(5, 5), -2);

        says(19, "NONE: 1.");
        Edges.noneSuch("fact by a house", Edges.Sort.HOUSE, (z, house) -> z.fact(house, 0));
        Edges.noneSuch("a fact", Edges.Sort.FACT, (z, fact) -> z.fact(0, fact));

        says(20, "A question, KNOWN by all: likewise.");
        Edges.taken(facts, "yes", () -> facts.knownByAll(0), 1);
        Edges.taken(facts, "no", () -> facts.knownByAll(2), 0);
        OneAnswer two = made(TWO);
        Edges.taken(two, "not known", () -> two.knownByAll(3), -2);
        due("without worlds", made(TORN).knownByAll(1), -2);

        says(20, "NONE: 1.");
        Edges.noneSuch("knownByAll", Edges.Sort.QUESTION, (z, question) -> z.knownByAll(question));
    }

    private static void onlyTogether() {
        says(21, "Questions that are known by all, but by no HOUSE, as bits.");
        OneAnswer x = made(TWO + ";told h qa yes;told i qb yes");
        Edges.taken(x, "both", x::onlyTogether, 0b0100);
        due("neither", made(TWO + ";told h qa no;told i qb no").onlyTogether(), 0b1000);
        due("the first question", made(TWO + ";told h qd yes;told i qb no").onlyTogether(), 0b0001);
        due("one house knows it", made(TWO + ";told h qa yes;told i qb yes;told j qc yes").onlyTogether(), 0);
        due("wed, they know it", made(TWO + ";told h qa yes;told i qb yes;weds h i").onlyTogether(), 0);
        due("all know nothing", made(TWO).onlyTogether(), 0);
        due("laws are known by each", made(TWO + ";law a;law b").onlyTogether(), 0);
        due("one house is all", made(BARE + ";question q a;told h q yes").onlyTogether(), 0);
        due("without worlds none is known by all", made(TORN).onlyTogether(), 0);

        says(21, "NONE: 1 (no WELL).");
        Edges.needsWell("onlyTogether", (y, i) -> y.onlyTogether());
    }

    private static void bestWedding() {
        says(22, "The two HOUSES, not kin, by whose wedding most questions are known by them that neither knew,");
        OneAnswer x = made(SIX + "told k qa yes;told l qb yes");
        Edges.taken(x, "the last two", x::bestWedding, 45);
        due("kin count, though they'd gain", made(SIX + "told k qa yes;told l qb yes;weds k l").bestWedding(), 1);
        due("what one knew counts nothing", made(SIX + "told g qc yes;told k qa yes;told l qb yes").bestWedding(), 45);
        due("most, not some", made(SIX + "question qd a or b;question qe a and not b;told g qa yes;told h qc no;"
            + "told k qa yes;told l qb yes").bestWedding(), 5);

        says(22, "10 times the lesser number and the greater, the first such;");
        due("the first two", made(SIX + "stone no").bestWedding(), 1);
        due("all gain nothing", made(SIX + "weds g h").bestWedding(), 2);
        due("the first of two pairs", made(SIX + "told j qa yes;told h qb yes;told l qb yes").bestWedding(), 13);
        due("two houses", made(BARE + ";house i first 0 each 1 twins 0").bestWedding(), 1);

        says(22, "-2 all are kin.");
        OneAnswer one = made(BARE);
        Edges.taken(one, "one house", one::bestWedding, -2);
        due("a chain", made(TWO + ";weds h i;weds i j").bestWedding(), -2);
        due("all but one", made(TWO + ";weds i j").bestWedding(), 1);

        says(22, "NONE: 1 (no WELL).");
        Edges.needsWell("bestWedding", (y, i) -> y.bestWedding());
    }

    private static void likeliest() {
        String land = "well now 0;fact a odds 7;fact b odds 4;" + Texts.HOUSE
            + ";house y first 0 each 1 twins 0;question qa a;question qb b";
        says(23, "The WORLD of greatest ODDS of those that can be by what is KNOWN by a HOUSE,");
        OneAnswer x = made(land + ";told z qa no");
        Edges.taken(x, "of all", () -> x.likeliest(1), 1);
        Edges.taken(x, "of two", () -> x.likeliest(0), 0);
        due("the last one", made(land + ";law a;law b").likeliest(0), 3);
        due("the last of 64",
            made("well now 0;" + Texts.each("abcdef", "fact ", " odds 9") + Texts.HOUSE).likeliest(0), 63);

        says(23, "the first such;");
        due("of four", made(TWO).likeliest(0), 0);
        due("of two", made(TWO + ";told h qa yes").likeliest(0), 1);

        says(23, "-2 none.");
        OneAnswer torn = made(TORN);
        Edges.taken(torn, "none", () -> torn.likeliest(0), -2);

        says(23, "NONE: 1.");
        Edges.noneSuch("likeliest", Edges.Sort.HOUSE, (y, house) -> y.likeliest(house));

        says(24, "How likely a question is so by what is KNOWN by a HOUSE, likewise.");
        OneAnswer y = made(land + ";question qc a and b;question qd a or b;told z qd yes");
        // of 28 + 42 + 12
        Edges.taken(y, "upper", () -> y.chanceOf(0, 2, false), 14);
        Edges.taken(y, "lower", () -> y.chanceOf(0, 2, true), 41);
        due("of another house", y.chanceOf(1, 2, true), 25);
        due("what is known", y.chanceOf(0, 3, false), 1);
        due("by 1", y.chanceOf(0, 3, true), 1);
        due("what is known not to be", x.chanceOf(0, 0, false), 0);
        due("by 1", x.chanceOf(0, 0, true), 1);

        says(24, "-1: 1;");
        Edges.noneSuch("chanceOf by a house", Edges.Sort.HOUSE, (z, house) -> z.chanceOf(house, 0, true),
            new String[] {TWO, Texts.full()});
        Edges.noneSuch("chanceOf a question", Edges.Sort.QUESTION, (z, question) -> z.chanceOf(0, question, false));

        says(24, "6 (no WORLD).");
        Edges.refused(torn, "upper", () -> torn.chanceOf(0, 0, false), 6);
        Edges.refused(torn, "lower", () -> torn.chanceOf(0, 3, true), 6);
        Edges.refused(torn, "1 ahead of 6", () -> torn.chanceOf(0, 4, true), 1);
        Edges.taken(torn, "another house has worlds", () -> torn.chanceOf(1, 1, true), 1);
    }

    private static void wouldKnow() {
        says(25, "Questions KNOWN by a HOUSE if it were told besides that one is so (yes), or isn't, as bits;");
        OneAnswer x = made(TWO + ";told i qa yes");
        Edges.taken(x, "a", () -> x.wouldKnow(0, 0, true), 0b1001);
        Edges.taken(x, "not a", () -> x.wouldKnow(0, 0, false), 0b0101);
        Edges.taken(x, "b, with a", () -> x.wouldKnow(1, 1, true), 0b1111);
        due("what it knows", x.wouldKnow(1, 0, true), 0b1001);
        due("nothing of the first", x.wouldKnow(0, 1, true), 0b1010);
        due("one alone", x.wouldKnow(0, 3, true), 0b1000);
        due("nothing is told by it", x.left(0), 4);
        due("nor kept", x.size(5), 1);
        due("a liar's are turned round",
            made(TWO + ";told h qa yes;told i qa no;told j qa no").wouldKnow(0, 1, true), 0b1111);

        says(25, "-2 if that can't be.");
        Edges.taken(x, "not a", () -> x.wouldKnow(1, 0, false), -2);
        due("against a law", made(TWO + ";law a").wouldKnow(0, 0, false), -2);
        due("without worlds", made(TORN).wouldKnow(0, 1, true), -2);
        due("without worlds", made(TORN).wouldKnow(0, 1, false), -2);

        says(25, "NONE: 1.");
        Edges.noneSuch("wouldKnow by a house", Edges.Sort.HOUSE, (z, house) -> z.wouldKnow(house, 0, true),
            new String[] {TWO, Texts.full()});
        Edges.noneSuch("wouldKnow of a question", Edges.Sort.QUESTION,
            (z, question) -> z.wouldKnow(0, question, false));
    }

    private static void needless() {
        says(26, "Answers of kin, as told, that could be left out, one alone, "
            + "and as many WORLDS would be left, as bits.");
        OneAnswer x = made(TWO + ";told h qa yes;told i qa yes;told j qb yes;told h qd yes;weds h i");
        Edges.taken(x, "one of two alike, and what they tell", () -> x.needless(0), 0b1011);
        Edges.taken(x, "of kin", () -> x.needless(1), 0b1011);
        Edges.taken(x, "none of others", () -> x.needless(2), 0);
        due("by a law", made(TWO + ";law a;told h qa yes").needless(0), 1);
        due("of no answers", made(TWO).needless(0), 0);
        due("without worlds one may be needless", made(TORN).needless(0), 0);
        due("three that are torn, by two each",
            made(TWO + ";told h qa yes;told h qa no;told h qa yes").needless(0), 0b101);
        OneAnswer all = made(TWO + ";truth a" + Texts.times(12, ";told h qa yes"));
        for (int i = 0; i < 8; i++) {
            all.ask(0, 0);
        }
        due("all twenty", all.needless(0), (1 << 20) - 1);

        says(26, "NONE: 1.");
        Edges.noneSuch("needless", Edges.Sort.HOUSE, (z, house) -> z.needless(house));
    }

    private static void told() {
        String text = TWO + ";told j qd no;told h qa yes;told i qa yes;told h qb no";
        says(27, "Of an answer 0 its HOUSE, 1 its question, 2 1 yes, 0 no (as it is told),");
        OneAnswer x = made(text);
        due("the liar", x.liars(), 4);
        int[][] rows = {{2, 3, 0}, {0, 0, 1}, {1, 0, 1}, {0, 1, 0}};
        for (int k = 0; k < rows.length; k++) {
            for (int what = 0; what < 3; what++) {
                int i = k;
                int w = what;
                Edges.taken(x, "told " + k + " " + what, () -> x.told(i, w), rows[k][what]);
            }
        }

        says(27, "3 1 if it is WASTED,");
        int[] wasted = {0, 0, 1, 0};
        for (int k = 0; k < 4; k++) {
            int i = k;
            Edges.taken(x, "wasted " + k, () -> x.told(i, 3), wasted[k]);
        }

        says(27, "4 with how many it CLASHES.");
        int[] clashes = {2, 1, 1, 0};
        for (int k = 0; k < 4; k++) {
            int i = k;
            Edges.taken(x, "clashes " + k, () -> x.told(i, 4), clashes[k]);
        }
        due("not with itself", made(TWO + ";law a;told h qa no").told(0, 4), 0);
        due("what can't be, with each other",
            made(TWO + ";law a;told h qa no;told i qb yes;told j qa no").told(0, 4), 2);

        says(27, "NONE: 1.");
        Edges.noneSuch("told", Edges.Sort.ANSWER, (y, k) -> y.told(k, 0));
        Edges.noneSuch("told", Edges.Sort.ANSWER, (y, k) -> y.told(k, 4));
        for (int what : new int[] {-1, 5, 6, Integer.MIN_VALUE, Integer.MAX_VALUE}) {
            Edges.refused(x, "what " + what, () -> x.told(0, what), 1);
        }
        OneAnswer twenty = twenty();
        Edges.taken(twenty, "the twentieth", () -> twenty.told(19, 0), 0);
        Edges.refused(twenty, "none behind it", () -> twenty.told(20, 0), 1);

        says(28, "How many CLASHES there are.");
        Edges.taken(x, "two", x::clashes, 2);
        due("none", made(TWO).clashes(), 0);
        due("one alone", made(TWO + ";told h qa yes").clashes(), 0);
        due("each yes with each no", made(TWO + Texts.times(6, ";told h qa yes") + Texts.times(6, ";told i qa no"))
            .clashes(), 36);
        Edges.taken(twenty, "ten with ten", twenty::clashes, 100);

        says(28, "NONE: 1 (no WELL).");
        Edges.needsWell("clashes", (y, i) -> y.clashes());
    }

    /** Twenty answers to one question, by turns yes and no. */
    private static OneAnswer twenty() {
        OneAnswer x = made(TWO + ";truth a" + Texts.times(6, ";told h qa yes;told h qa no"));
        for (int i = 0; i < 4; i++) {
            x.ask(1, 0);
            x.lie(0, 0);
        }
        return x;
    }

    private static void taken() {
        says(29, "How many WORLDS that CAN BE an answer (LIARS' turned round) takes behind all told ahead.");
        OneAnswer x = made(TWO + ";told j qd no;told h qa yes;told i qa yes;told h qb no");
        int[] takes = {1, 1, 0, 1};
        for (int k = 0; k < 4; k++) {
            int i = k;
            Edges.taken(x, "takes " + k, () -> x.takes(i), takes[k]);
        }
        due("a liar's", made(TWO + ";told h qc yes;told i qa no;told j qa no").takes(0), 1);
        due("of 64 half", made("well now 0;" + Texts.each("abcdef", "fact ", " odds 5") + Texts.HOUSE
            + ";question q a;told z q no").takes(0), 32);
        due("none, by a law", made(TWO + ";law a;told h qa yes").takes(0), 0);
        due("none are left to take", made(TORN).takes(2), 0);

        says(29, "NONE: 1.");
        Edges.noneSuch("takes", Edges.Sort.ANSWER, (y, k) -> y.takes(k));

        says(30, "GRAVES of a HOUSE.");
        Edges.taken(x, "one", () -> x.graves(0), 1);
        Edges.taken(x, "none", () -> x.graves(2), 0);
        OneAnswer twenty = twenty();
        due("of sixteen", twenty.graves(0), 6);
        due("of four", twenty.graves(1), 4);
        due("of none", twenty.graves(2), 0);
        OneAnswer undone = made(TWO + ";truth a");
        undone.ask(0, 0);
        undone.ask(0, 0);
        undone.undo();
        due("what is undone counts no more", undone.graves(0), 1);

        says(30, "NONE: 1.");
        Edges.noneSuch("graves", Edges.Sort.HOUSE, (y, house) -> y.graves(house));
    }

    private static void stones() {
        says(31, "Questions that a STONE COULD have answered, as bits.");
        OneAnswer x = made(TWO + ";told h qa yes;told i qa no;told j qa no;stone yes;stone no;stone yes;stone no");
        // the first lies: a isn't so
        int[] could = {0b1010, 0b1111, 0b1010, 0b1111};
        int[] surely = {0, 0b0101, 0, 0b0101};
        for (int stone = 0; stone < 4; stone++) {
            int s = stone;
            Edges.taken(x, "could " + stone, () -> x.could(s), could[stone]);
        }
        due("of no questions", made(BARE + ";stone yes").could(0), 0);
        due("without worlds", made(TORN + ";stone yes").could(0), 0);
        due("of eight", made(Texts.full().replace("stone no", "stone yes")).could(3), 255);

        says(31, "NONE: 1.");
        Edges.noneSuch("could", Edges.Sort.STONE, (y, stone) -> y.could(stone));

        says(32, "SURELY, as bits.");
        for (int stone = 0; stone < 4; stone++) {
            int s = stone;
            Edges.taken(x, "surely " + stone, () -> x.surely(s), surely[stone]);
        }
        due("of no questions", made(BARE + ";stone no").surely(0), 0);
        due("without worlds", made(TORN + ";stone no").surely(0), 0);

        says(32, "NONE: 1.");
        Edges.noneSuch("surely", Edges.Sort.STONE, (y, stone) -> y.surely(stone));
    }

    private static void best() {
        String land = "well now 0;fact a odds 2;fact b odds 6;house h first 0 each 1 twins 0;"
            + "house i first 0 each 1 twins 0;question q a;question r b;question s not b";
        says(33, "BEST;");
        OneAnswer x = made(land + ";told i r yes");
        Edges.taken(x, "60 of 100 rather than 80", () -> x.best(0), 1);
        Edges.taken(x, "48 of 60 rather than 60", () -> x.best(1), 0);
        due("without worlds the first", made(TORN).best(0), 0);
        due("one question", made(BARE + ";question q a").best(0), 0);

        says(33, "-2 without questions.");
        OneAnswer bare = made(BARE);
        Edges.taken(bare, "none", () -> bare.best(0), -2);

        says(33, "NONE: 1.");
        Edges.noneSuch("best", Edges.Sort.HOUSE, (y, house) -> y.best(house));

        says(34, "How many are left at most by it, by ODDS");
        Edges.taken(x, "60", () -> x.bestLeft(0), 60);
        Edges.taken(x, "48", () -> x.bestLeft(1), 48);
        due("all, if it is known", made(BARE + ";question q a;told h q yes").bestLeft(0), 2);
        due("by six facts", made("well now 0;" + Texts.each("abcdef", "fact ", " odds 9") + Texts.HOUSE
            + ";question q a").bestLeft(0), 900000);

        says(34, "(0 without WORLDS).");
        OneAnswer torn = made(TORN);
        Edges.taken(torn, "none", () -> torn.bestLeft(0), 0);

        says(34, "NONE: 1;");
        Edges.noneSuch("bestLeft", Edges.Sort.HOUSE, (y, house) -> y.bestLeft(house));

        says(34, "6 (no questions).");
        Edges.refused(bare, "none", () -> bare.bestLeft(0), 6);
        Edges.refused(bare, "1 ahead of 6", () -> bare.bestLeft(1), 1);
    }

    private static void leftMean() {
        String land = "well now 0;fact a odds 2;fact b odds 6;house h first 0 each 1 twins 0;"
            + "house i first 0 each 1 twins 0;question q a;question r b";
        says(35, "What is left by a question on the mean, by ODDS: of ODDS of a HOUSE's WORLDS "
            + "those left by each answer, times how likely it is, together, as a fraction.");
        OneAnswer x = made(land + ";told i r yes;question s a and b");
        // 20 times 0.2 and 80 times 0.8
        Edges.taken(x, "68", () -> x.leftMean(0, 0, false), 68);
        Edges.taken(x, "by 1", () -> x.leftMean(0, 0, true), 1);
        // of 60: 12 times 0.2 and 48 times 0.8
        due("204", x.leftMean(1, 0, false), 204);
        due("by 5", x.leftMean(1, 0, true), 5);
        due("what is known leaves all", x.leftMean(1, 1, false), 60);
        due("by 1", x.leftMean(1, 1, true), 1);
        OneAnswer six = made("well now 0;" + Texts.each("abcdef", "fact ", " odds 9") + Texts.HOUSE
            + ";question q a and b and c and d and e and f;question r a or not a");
        due("the greatest upper", six.leftMean(0, 0, false), (531441L * 531441 + 468559L * 468559) / 2);
        due("by half a million", six.leftMean(0, 0, true), 500000);
        due("the greatest", six.leftMean(0, 1, false), 1000000);

        says(35, "-1: 1;");
        Edges.noneSuch("leftMean of a house", Edges.Sort.HOUSE, (y, house) -> y.leftMean(house, 0, true),
            new String[] {TWO, Texts.full()});
        Edges.noneSuch("leftMean by a question", Edges.Sort.QUESTION, (y, question) -> y.leftMean(0, question, false));

        says(35, "6 (no WORLD).");
        OneAnswer torn = made(TORN);
        Edges.refused(torn, "upper", () -> torn.leftMean(0, 0, false), 6);
        Edges.refused(torn, "lower", () -> torn.leftMean(0, 3, true), 6);
        Edges.refused(torn, "1 ahead of 6", () -> torn.leftMean(0, 4, true), 1);
    }

    private static void tells() {
        says(36, "TELLS;");
        OneAnswer x = made("well now 0;fact a odds 5;fact b odds 5;" + Texts.HOUSE
            + ";question qc a and b;question qa a;question qb b;question qd a or b;stone yes;stone no");
        Edges.taken(x, "the second", x::tells, 1);
        due("without stones the first", made(TWO).tells(), 0);
        due("without worlds the first", made(TORN + ";stone yes").tells(), 0);

        says(36, "-2 without questions.");
        OneAnswer none = made(BARE + ";stone yes");
        Edges.taken(none, "none", none::tells, -2);
        due("nor stones", made(BARE).tells(), -2);

        says(36, "NONE: 1 (no WELL).");
        Edges.needsWell("tells", (y, i) -> y.tells());
    }

    private static void fewest() {
        says(37, "FEWEST;");
        OneAnswer x = made(TWO + ";told i qa yes;told j qc yes");
        Edges.taken(x, "two", () -> x.fewest(0, 2), 2);
        Edges.taken(x, "one", () -> x.fewest(1, 2), 1);
        Edges.taken(x, "none", () -> x.fewest(2, 2), 0);

        says(37, "-2 all questions aren't enough.");
        Edges.taken(x, "a by the rest", () -> x.fewest(0, 0), 2);
        OneAnswer apart = made(APART);
        Edges.taken(apart, "a by b", () -> apart.fewest(0, 0), -2);
        Edges.taken(apart, "b and c by a and b", () -> apart.fewest(0, 2), -2);
        due("the only question", made(BARE + ";question q a").fewest(0, 0), -2);
        due("without worlds", made(TORN).fewest(0, 0), -2);

        OneAnswer after = made(APART + ";question qd not b");
        due("not enough", after.fewest(0, 0), -2);
        due("but for another it is, behind that", after.fewest(0, 1), 1);

        says(37, "NONE: 1.");
        Edges.noneSuch("fewest by a house", Edges.Sort.HOUSE, (y, house) -> y.fewest(house, 0),
            new String[] {TWO, Texts.full()});
        Edges.noneSuch("fewest for a question", Edges.Sort.QUESTION, (y, question) -> y.fewest(0, question));

        says(38, "FIRST;");
        Edges.taken(x, "a or b", () -> x.first(0, 2), 0);
        Edges.taken(x, "b", () -> x.first(1, 2), 1);
        due("the last question", made(BARE + ";question q a;question r a or not a;question s a").first(0, 0), 2);

        says(38, "-2 it is known, or can't be.");
        Edges.taken(x, "known", () -> x.first(2, 2), -2);
        Edges.taken(apart, "not enough", () -> apart.first(0, 0), -2);
        due("without worlds", made(TORN).first(0, 0), -2);

        says(38, "NONE: 1.");
        Edges.noneSuch("first by a house", Edges.Sort.HOUSE, (y, house) -> y.first(house, 0),
            new String[] {TWO, Texts.full()});
        Edges.noneSuch("first for a question", Edges.Sort.QUESTION, (y, question) -> y.first(0, question));
    }

    private static void mean() {
        says(39, "MEAN, the upper WHOLE or the lower, likewise.");
        OneAnswer x = made(TWO + ";told i qa yes;told j qc yes");
        Edges.taken(x, "three", () -> x.mean(0, 2, false), 3);
        Edges.taken(x, "by two", () -> x.mean(0, 2, true), 2);
        Edges.taken(x, "one", () -> x.mean(1, 2, false), 1);
        Edges.taken(x, "by one", () -> x.mean(1, 2, true), 1);
        Edges.taken(x, "none", () -> x.mean(2, 2, false), 0);
        Edges.taken(x, "0 by 1", () -> x.mean(2, 2, true), 1);
        OneAnswer six = made("well now 0;" + Texts.each("abcdef", "fact ", " odds 9") + Texts.HOUSE
            + ";question t a and b and c and d and e and f;question u a;question v b;question w c;question x d;"
            + "question y e;question s f");
        // 1 + 0.9 + 0.81 + .. six times
        due("the greatest that is likely", six.mean(0, 0, false), 468559);
        due("by 100000", six.mean(0, 0, true), 100000);

        says(39, "-1: 1;");
        Edges.noneSuch("mean by a house", Edges.Sort.HOUSE, (y, house) -> y.mean(house, 0, true),
            new String[] {TWO, Texts.full()});
        Edges.noneSuch("mean for a question", Edges.Sort.QUESTION, (y, question) -> y.mean(0, question, false));

        says(39, "6 (it can't be).");
        OneAnswer apart = made(APART);
        Edges.refused(apart, "not enough", () -> apart.mean(0, 0, false), 6);
        Edges.refused(apart, "not enough", () -> apart.mean(0, 2, true), 6);
        OneAnswer torn = made(TORN);
        Edges.refused(torn, "without worlds", () -> torn.mean(0, 0, false), 6);
        Edges.refused(torn, "1 ahead of 6", () -> torn.mean(0, 4, false), 1);
    }
}
