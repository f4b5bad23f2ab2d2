/** Terms II to IV, sentence by sentence. */
final class EdgesOfTerms {
    private static final String TWO = Texts.TWO;
    private static final String TORN = Texts.TORN;
    private static final String SIX = "well now 0;" + Texts.each("abcdef", "fact ", " odds 9")
        + Texts.each("ghijkl", "house ", " first 0 each 1 twins 0");

    /** Of eight worlds each question but the first is so in one alone. */
    private static final String SEVEN = "well now 0;fact a odds 5;fact b odds 5;fact c odds 5;" + Texts.HOUSE
        + ";question t a or b or c;question qa a and not b and not c;question qb not a and b and not c;"
        + "question qc a and b and not c;question qd not a and not b and c;question qe a and not b and c;"
        + "question qf not a and b and c;question qg a and b and c";

    private EdgesOfTerms() {
    }

    static void run() {
        worlds();
        told();
        liars();
        known();
        clashes();
        stones();
        bestQuestions();
        plans();
        turns();
        births();
        acts();
        trouble();
    }

    private static void two(String words) {
        Document.term("II", words);
    }

    private static void three(String words) {
        Document.term("III", words);
    }

    private static void four(String words) {
        Document.term("IV", words);
    }

    private static OneAnswer made(String text) {
        return Texts.sound(text);
    }

    private static void due(String what, long got, long want) {
        Check.due(what, got, want);
    }

    private static void so(String what, boolean got) {
        Check.due(what, got, true);
    }

    private static void worlds() {
        two("A WORLD: which FACTS hold; its number: of each that holds 2 to as many as its number, together.");
        OneAnswer x = made(SIX + Texts.each("abcde", "question q", " a").replaceAll("q(.) a", "q$1 $1")
            + "question qf f");
        for (int world = 0; world < 64; world++) {
            for (int fact = 0; fact < 6; fact++) {
                due("fact " + fact + " in " + world, x.isSo(fact, world), world >> fact & 1);
            }
        }

        two("CAN BE: WORLDS in which all laws hold.");
        due("no law, two worlds", made(Texts.BARE).worlds(), 2);
        due("no law, 64 worlds", made(SIX + "stone no").worlds(), 64);
        OneAnswer laws = made(SIX + "law a;law b;law c;law d;law e;law f");
        due("six laws, one world", laws.worlds(), 1);
        due("the last one", laws.canBe(63), 1);
        due("without the first law's", laws.canBe(62), 0);
        due("without the last law's", laws.canBe(31), 0);

        two("ODDS of a WORLD: of each FACT its odds if it holds, 10 less them if not, multiplied.");
        OneAnswer odds = made("well now 0;fact a odds 1;fact b odds 9;fact c odds 5;" + Texts.HOUSE);
        int[] due = {9 * 1 * 5, 1 * 1 * 5, 9 * 9 * 5, 1 * 9 * 5, 9 * 1 * 5, 1 * 1 * 5, 9 * 9 * 5, 1 * 9 * 5};
        for (int world = 0; world < 8; world++) {
            due("odds of " + world, odds.odds(world), due[world]);
        }
        due("the least there are", made(SIX + "stone no").odds(0), 1);
        due("the greatest there are", made(SIX + "stone no").odds(63), 9 * 9 * 9 * 9 * 9 * 9);
    }

    private static void told() {
        two("TOLD: by HOUSES, as told, then by ACTS.");
        OneAnswer x = made(TWO + ";told j qc no;told h qb yes;truth b");
        x.ask(1, 3);
        x.lie(0, 0);
        int[][] rows = {{2, 2, 0}, {0, 1, 1}, {1, 3, 1}, {0, 0, 1}};
        for (int k = 0; k < rows.length; k++) {
            for (int what = 0; what < 3; what++) {
                due("told " + k + " " + what, x.told(k, what), rows[k][what]);
            }
        }
    }

    private static void liars() {
        two("LIARS: sets of HOUSES such that, if all their answers are turned round and all others are so, "
            + "some WORLD CAN BE:");
        OneAnswer x = made(TWO + ";told h qa yes;told h qb yes;told i qa no;told j qb no");
        due("both answers of one are turned round", x.liars(), 1);
        due("the one, or the two others", x.sets(), 2);
        due("one answer alone can't be turned", made(TWO + ";told h qa yes;told h qa no").sets(), 0);
        due("one who says what can't be", made(TWO + ";law a;told i qa no").liars(), 2);
        due("one who says what must be", made(TWO + ";law a;told i qa yes").sets(), 4);
        due("one with no answers may lie or not", made(TWO + ";told h qa yes;told i qb no").sets(), 8);
        String never = SIX + "question q a and not a;" + Texts.each("ghijkl", "told ", " q yes");
        due("all six", made(never + "stone no").liars(), 63);
        due("no other set", made(never + "stone no").sets(), 1);

        two("of those the one of fewest HOUSES,");
        due("one, of more bits, not two", made(TWO + ";told h qa yes;told i qa yes;told j qa no").liars(), 4);
        due("one, of fewer bits, not two", made(TWO + ";told h qa no;told i qa yes;told j qa yes").liars(), 1);
        due("nobody, if it can be so", made(TWO + ";told h qa yes;told i qa yes").liars(), 0);
        due("nobody, without answers", made(TWO).liars(), 0);

        two("of like ones the least bits;");
        due("of the first two", made(TWO + ";told h qa yes;told i qa no").liars(), 1);
        due("of the last two", made(TWO + ";told j qa yes;told i qa no").liars(), 2);
        due("of the outer two", made(TWO + ";told j qa yes;told h qa no").liars(), 1);
        due("two of four", made(SIX + "question q a;told l q no;told k q no;told h q yes;told g q yes").liars(), 3);

        two("nobody, if there are no such sets.");
        OneAnswer torn = made(TORN);
        due("no sets", torn.sets(), 0);
        due("no answer is turned round", torn.known(1, 1), 1);
        due("it takes as it is told", torn.takes(0), 2);
        due("the one behind it, too", torn.takes(1), 2);
        due("nor another house's", made(TWO + ";told i qa yes;told i qa no;told h qb yes").known(0, 1), 1);
        OneAnswer then = made(TWO + ";truth a;told h qa no;told i qa yes");
        due("a liar", then.liars(), 1);
        due("two sets, with the third or without", then.sets(), 4);
        due("turned round", then.known(0, 0), 1);
        then.lie(1, 0);
        due("the other is torn", then.sets(), 0);
        due("so that nobody is turned round", then.known(0, 0), 0);
        then.undo();
        due("the liar again", then.liars(), 1);
        due("four sets again", then.sets(), 4);
    }

    private static void known() {
        two("KNOWN by a HOUSE: all answers of the HOUSES that are wed to it, and to those, and so on, and its own");
        String asked = SIX + "question q a;told l q yes;";
        due("not wed, not known", made(asked + "weds g h;weds h i;weds i j;weds j k").known(0, 0), -2);
        due("its own", made(asked + "stone no").known(5, 0), 1);
        OneAnswer chain = made(asked + "weds g h;weds h i;weds i j;weds j k;weds k l");
        OneAnswer turned = made(asked + "weds k l;weds k j;weds j i;weds i h;weds h g");
        OneAnswer mixed = made(asked + "weds l g;weds h k;weds i l;weds g k;weds j h");
        for (int house = 0; house < 6; house++) {
            due("by a chain of five", chain.known(house, 0), 1);
            due("by a chain turned round", turned.known(house, 0), 1);
            due("by a chain in no order", mixed.known(house, 0), 1);
        }

        OneAnswer first = made(SIX + "question q a;told g q yes;weds g h;weds h i;weds i j;weds j k;weds k l");
        for (int house = 0; house < 6; house++) {
            due("from the other end", first.known(house, 0), 1);
        }

        two("(LIARS' turned round): WORLDS that CAN BE by these.");
        OneAnswer lied = made(TWO + ";told h qa yes;told i qa no;told j qa no");
        due("the liar", lied.liars(), 1);
        due("what it says isn't so", lied.known(0, 0), 0);
        due("what others say is", lied.known(1, 0), 0);
        due("worlds of the liar", lied.left(0), 2);

        two("KNOWN by all: by all answers.");
        OneAnswer apart = made(TWO + ";told h qa yes;told i qb yes");
        due("by all", apart.knownByAll(2), 1);
        due("not by the one", apart.known(0, 2), -2);
        due("not by the other", apart.known(1, 2), -2);

        two("A question is known as yes (no) if it is so in all those WORLDS");
        due("yes", apart.known(0, 0), 1);
        due("no", made(TWO + ";told h qa no").known(0, 0), 0);
        due("no in all", made(TWO + ";told h qa no").known(0, 2), 0);
        due("yes in some", made(TWO + ";told h qd yes").known(0, 0), -2);

        two("(if there is none: -2).");
        due("without worlds", made(TORN).known(0, 0), -2);
        due("without worlds", made(TORN).known(0, 1), -2);
        due("by all", made(TORN).knownByAll(1), -2);
        due("a fact", made(TORN).fact(0, 1), -2);
    }

    private static void clashes() {
        two("CLASH: two answers, as they are told, that can't both be so in a WORLD that CAN BE.");
        due("yes and no", made(TWO + ";told h qa yes;told i qa no").clashes(), 1);
        due("of one house", made(TWO + ";told h qa yes;told h qa no").clashes(), 1);
        due("yes and yes", made(TWO + ";told h qa yes;told i qa yes").clashes(), 0);
        due("two that can be", made(TWO + ";told h qa yes;told i qb no").clashes(), 0);
        due("by a law", made(TWO + ";law a or b;told h qa no;told i qb no").clashes(), 1);
        due("without the law", made(TWO + ";told h qa no;told i qb no").clashes(), 0);
        due("a liar's as told", made(TWO + ";told h qa yes;told i qa no;told j qa no").clashes(), 2);
        due("three that can't be, of which each two can", made(TWO
            + ";told h qa no;told i qb no;told j qd yes").clashes(), 0);
        due("one that never can be, alone", made(TWO + ";law a;told h qa no").clashes(), 0);
        due("and with another", made(TWO + ";law a;told h qa no;told i qb no").clashes(), 1);

        two("WASTED: an answer (LIARS' turned round) by which, behind all told ahead, "
            + "no WORLD of those that CAN BE goes.");
        OneAnswer x = made(TWO + ";told h qa yes;told i qa no;told j qa no");
        int[] wasted = {0, 1, 1};
        for (int k = 0; k < 3; k++) {
            due("wasted " + k, x.told(k, 3), wasted[k]);
        }
        due("by a law", made(TWO + ";law a;told h qa yes").told(0, 3), 1);
        due("by another's", made(TWO + ";told i qc yes;told h qb yes").told(1, 3), 1);
        due("one world goes", made(TWO + ";told h qd yes").told(0, 3), 0);
        due("told behind, not ahead", made(TWO + ";told h qa yes;told i qc yes").told(0, 3), 0);
        due("nothing is left to go", made(TORN).told(2, 3), 1);
        due("a liar's that takes nothing", made(TWO + ";law a;told h qa no").told(0, 3), 1);
    }

    private static void stones() {
        three("A STONE COULD have answered a question if there is a WORLD "
            + "of all that is KNOWN in which that is its answer;");
        OneAnswer x = made(TWO + ";told h qa yes;told i qb no;stone yes;stone no");
        due("yes", x.could(0), 0b1001);
        due("no", x.could(1), 0b0110);
        OneAnswer y = made(TWO + ";stone yes;stone no");
        due("either", y.could(0), 15);
        due("either", y.could(1), 15);
        due("by a law", made(TWO + ";law not a;stone yes").could(0), 0b1010);

        three("SURELY if that is so in all of these");
        due("yes", x.surely(0), 0b1001);
        due("no", x.surely(1), 0b0110);
        due("neither", y.surely(0), 0);
        due("by a law", made(TWO + ";law not a;stone no").surely(0), 0b0101);

        three("(none: not).");
        OneAnswer torn = made(TORN + ";stone yes;stone no");
        due("yes", torn.surely(0), 0);
        due("no", torn.surely(1), 0);
        due("nor could it", torn.could(0), 0);
    }

    private static void bestQuestions() {
        three("BEST question of a HOUSE: by which of the WORLDS that it knows, by ODDS, at most the fewest are left, "
            + "the first such.");
        String land = "well now 0;fact a odds 9;fact b odds 9;" + Texts.HOUSE + ";";
        // of 100, by the one answer or the other: 90, 90, 81
        due("by odds, not by number", made(land + "question p a;question q b;question r a and b").best(0), 2);
        due("the first such", made(land + "question p a;question q b").best(0), 0);
        due("its contrary is as good",
            made(land + "question p a;question r not (a and b);question s a and b").best(0), 1);
        due("of the worlds that it knows", made(land + "question p a;question r a and b;question s b;"
            + "told z p yes").best(0), 1);
        due("no more is known by the first", made(land + "question p a;question s b;told z p yes").best(0), 1);

        three("TELLS: by which, whatever its answer can be,");
        String asked = "well now 0;fact a odds 5;fact b odds 5;" + Texts.HOUSE
            + ";question qc a and b;question qa a;question qb b;question qd a or b;";
        // what can't be answered leaves nothing that counts: qa by a law, 2 and 4 at most, as qc or qd
        due("by its one answer", made(asked + "law a;stone yes;stone no").tells(), 0);
        due("by either", made(asked + "law not (a and b);stone yes;stone no").tells(), 1);

        three("the questions that STONES COULD have answered, by all that is KNOWN then,");
        // known: a; by qc or qb yes all four are so, or two of them and two not
        due("by what is known", made(asked + "told z qa yes;stone yes;stone no").tells(), 0);
        due("a question that tells nothing is no better", made("well now 0;fact a odds 5;fact b odds 5;" + Texts.HOUSE
            + ";question qa a;question qb b;told z qa yes;stone yes;stone no").tells(), 1);

        three("one STONE behind another, are fewest at most;");
        due("one stone: four by each question", made(asked + "stone yes").tells(), 0);
        due("the other: four by each question", made(asked + "stone no").tells(), 0);
        due("both: seven by qc, six by qa", made(asked + "stone yes;stone no").tells(), 1);

        three("the first such.");
        due("qa, not qb", made(asked + "stone yes;stone no;stone no;stone yes").tells(), 1);
        due("without stones", made(asked + "law a or b").tells(), 0);
    }

    private static void plans() {
        String land = "well now 0;fact a odds 5;fact b odds 5;fact c odds 9;" + Texts.HOUSE + ";";
        three("FEWEST questions, asked one by one as answers come, by which a HOUSE knows one that is told,");
        OneAnswer x = made(land + "question s b and a or not b and c;question x a;question y b;question w c");
        due("three in any order, two by what comes", x.fewest(0, 0), 2);
        due("none, if it is known", made(land + "law a;question x a;question y b").fewest(0, 0), 0);
        due("one", made(land + "question x a;question y b;question w not a").fewest(0, 0), 1);
        String six = SIX + "question t a and b and c and d and e and f;"
            + Texts.each("abcdef", "question q", " b").replaceAll("q(.) b", "q$1 $1");
        due("six", made(six + "stone no").fewest(0, 0), 6);
        due("with one known", made(six + "told g qc yes").fewest(0, 0), 5);
        due("one, then three more, by the worse answer", made("well now 0;" + Texts.each("abcd", "fact ", " odds 5")
            + Texts.HOUSE + ";question t a and c or not a and b and c and d;question q a;question r b;question s c;"
            + "question u d").fewest(0, 0), 4);
        OneAnswer seven = made(SEVEN);
        due("all seven others", seven.fewest(0, 0), 7);
        due("the first of them", seven.first(0, 0), 1);
        // of eight worlds seven end it at their question, the last at the seventh
        due("35", seven.mean(0, 0, false), 35);
        due("by 8", seven.mean(0, 0, true), 8);
        due("the last, by all the others", seven.fewest(0, 7), 7);

        three("which itself may not be asked,");
        due("not by itself", made(land + "question x a;question y b").fewest(0, 0), -2);
        due("not alone", made(land + "question x a").fewest(0, 0), -2);
        due("by one alike", made(land + "question x a;question y b;question w a and (b or not b)").first(0, 0), 2);

        three("whatever the answers are");
        due("one answer is enough, the other isn't", made(land + "question t a and b;question x a").fewest(0, 0), -2);
        due("at most", made(land + "question t c or (a and b);question x a;question y b;question w c").fewest(0, 0), 3);

        three("(it can't be, if it knows no WORLD);");
        due("fewest", made(TORN).fewest(0, 0), -2);
        due("first", made(TORN).first(0, 0), -2);
        due("mean", made(TORN).mean(0, 0, false), -1);

        three("FIRST: the first such to begin with.");
        due("not with the first question", x.first(0, 0), 2);
        due("with the eighth", made("well now 0;" + Texts.each("abcd", "fact ", " odds 5") + Texts.HOUSE
            + ";question t b and a or not b and c;question p a;question q c;question r d;question s a and d;"
            + "question u c and d;question v d or a;question w b").first(0, 0), 7);
        due("two would do", made(land + "question t a and b;question x b;question y a").first(0, 0), 1);
        due("the last may be asked of, too",
            made(land + "question x b;question y a;question t a and b").first(0, 2), 0);
        due("the worst counts, not the mean",
            made(land + "question t c or (a and b);question x a;question y b;question w c").first(0, 0), 1);

        three("MEAN: the least there can be of how many, by ODDS, as a fraction;");
        // with w first: 1, and one time in ten 1 and a half more
        OneAnswer v = made(land + "question t c or (a and b);question x a;question y b;question w c");
        due("23", v.mean(0, 0, false), 23);
        due("by 20", v.mean(0, 0, true), 20);
        due("two, by either answer", x.mean(0, 0, false), 2);
        due("by 1", x.mean(0, 0, true), 1);

        three("a question that is known already tells nothing, and isn't asked.");
        OneAnswer w = made(land + "law a;question t b;question x a;question y not b");
        due("one", w.fewest(0, 0), 1);
        due("not the one that is known", w.first(0, 0), 2);
        due("one on the mean", w.mean(0, 0, false), 1);
        due("a known one is no way", made(land + "law a;question t b;question x a").fewest(0, 0), -2);
    }

    private static void turns() {
        three("ASKINGS of a HOUSE: generations come each so many years from the first one;");
        String land = "well now 0;fact a odds 5;house h first 10 each 5 twins 0;";
        OneAnswer x = made(land + "house i first 999 each 99 twins 0");
        due("the first", x.asking(0, 0), 10);
        due("the second", x.asking(0, 1), 15);
        due("the hundredth", x.asking(0, 99), 505);
        due("the latest that can be", x.asking(1, 99), 999 + 99 * 99);

        three("each asks in its year, one of twins twice;");
        OneAnswer y = made(land + "twin h 0;twin h 2;twin h 3;twin h 30");
        int[] years = {10, 10, 15, 20, 20, 25, 25, 30};
        for (int i = 0; i < years.length; i++) {
            due("asking " + i, y.asking(0, i), years[i]);
        }
        due("the thirtieth", y.asking(0, 33), 160);
        due("its twin", y.asking(0, 34), 160);
        due("the one behind", y.asking(0, 35), 165);

        three("none in the year in which it ends, or behind.");
        int[] ends = {0, 9, 10, 11, 15, 16, 19, 20, 21};
        int[] askings = {0, 0, 0, 1, 1, 2, 2, 2, 3};
        for (int i = 0; i < ends.length; i++) {
            OneAnswer ended = made(land + "ends h " + ends[i]);
            due("askings with the end in " + ends[i], ended.turnsTo(999), askings[i]);
            due("none behind", ended.asking(0, askings[i]), -2);
            so("the last one", askings[i] == 0 || ended.asking(0, askings[i] - 1) == 5 + 5 * askings[i]);
        }
        due("twins ahead of the end", made(land + "twin h 1;ends h 16").asking(0, 2), 15);
        due("twins in it", made(land + "twin h 1;ends h 15").asking(0, 1), -2);

        three("TURNS: all ASKINGS by years,");
        OneAnswer z = made(land + "house i first 12 each 50 twins 0;house j first 1 each 9 twins 0;twin j 1;ends j 20");
        // 1 j, 10 h j j, 12 i, 15 h, 19 j, 20 h
        int[] houses = {2, 0, 2, 2, 1, 0, 2, 0};
        for (int i = 0; i < houses.length; i++) {
            due("turn " + i, z.turnOf(i), houses[i]);
        }

        three("in one year by numbers of HOUSES.");
        OneAnswer one = made("well now 0;fact a odds 5;" + Texts.each("hijklm", "house ", " first 3 each 1 twins 0")
            + "twin h 0;twin k 0;ends l 3");
        int[] first = {0, 0, 1, 2, 3, 3, 5, 0, 1};
        for (int i = 0; i < first.length; i++) {
            due("turn " + i, one.turnOf(i), first[i]);
        }
    }

    private static OneAnswer withTwins(int twins) {
        return made("well now 0;fact a odds 5;house h first 0 each 1 twins " + twins);
    }

    private static void births() {
        three("BIRTHS: of n generations of a HOUSE by a SEED: each a DRAW mod 100 below twins: twins;");
        // the draw from 1 is 149, that from 0 is 74
        due("49 below 49", withTwins(49).births(0, 1, 1), 1);
        due("49 below 50", withTwins(50).births(0, 1, 1), 2);
        due("74 below 74", withTwins(74).births(0, 0, 1), 1);
        due("74 below 75", withTwins(75).births(0, 0, 1), 2);
        due("none of no generations", withTwins(99).births(0, 1, 0), 0);

        three("told twins don't count");
        due("told",
            made("well now 0;fact a odds 5;house h first 0 each 1 twins 0;twin h 0;twin h 1").births(0, 1, 9), 9);
        due("told and drawn", made("well now 0;fact a odds 5;house h first 0 each 1 twins 50;twin h 0")
            .births(0, 1, 1), 2);

        three("(SEED becomes (75 times SEED and 74) mod 65,537):");
        // 1, 149, 11249, 57305: 49, 49, 5
        due("three draws", withTwins(6).births(0, 1, 3), 4);
        due("the third", withTwins(5).births(0, 1, 3), 3);
        // 65,536 becomes itself: 36 for ever
        due("36 below 36", withTwins(36).births(0, 65536, 99), 99);
        due("36 below 37", withTwins(37).births(0, 65536, 99), 198);
        // 873 becomes 65,549 less 65,537; 872 becomes 65,474
        due("12 below 12", withTwins(12).births(0, 873, 1), 1);
        due("12 below 13", withTwins(13).births(0, 873, 1), 2);
        due("74 below 74", withTwins(74).births(0, 872, 1), 1);
        due("74 below 75", withTwins(75).births(0, 872, 1), 2);

        three("ASKINGS.");
        due("one each", withTwins(0).births(0, 5, 7), 7);
        due("two each", withTwins(99).births(0, 1, 3), 6);
        three("GRAVES: answers yes, as they are told.");
        OneAnswer x = made(TWO + ";law not a;told h qa yes;told h qb no;told h qa yes;told i qb yes");
        due("a liar's are yes", x.liars(), 1);
        due("two", x.graves(0), 2);
        due("one", x.graves(1), 1);
        due("none", x.graves(2), 0);
    }

    private static void acts() {
        three("ACTS: ASK (a HOUSE tells what is true), LIE (it tells the contrary), WED, YEARS go by.");
        OneAnswer x = made(TWO + ";truth a");
        due("ask", x.ask(0, 0), 1);
        due("ask", x.ask(0, 1), 0);
        due("lie", x.lie(1, 0), 0);
        due("lie", x.lie(1, 1), 1);
        so("wed", x.wed(0, 2));
        due("years", x.years(9), 9);
        due("six acts", x.size(10), 6);
        due("four answers", x.size(5), 4);
        due("one wedding", x.size(7), 1);

        three("UNDO: the latest (12 are kept).");
        OneAnswer y = made(TWO + ";truth a");
        for (int i = 1; i <= 12; i++) {
            y.years(i);
            due("kept", y.size(10), i);
        }
        y.years(13);
        due("no more than 12", y.size(10), 12);
        for (int i = 13; i > 1; i--) {
            so("undo", y.undo());
            due("the latest is undone", y.size(8), i * (i - 1) / 2);
        }
        so("the first isn't kept", !y.undo());
        due("it stays", y.size(8), 1);

        three("IMAGES: up to 3; gone back to one, nothing can be undone.");
        OneAnswer z = made(TWO + ";truth a");
        for (int i = 0; i < 3; i++) {
            due("image", z.image(), i);
            z.years(1);
        }
        due("no fourth", z.image(), -1);
        due("acts", z.size(10), 3);
        so("back", z.back(1));
        due("no acts", z.size(10), 0);
        so("nothing to undo", !z.undo());
        due("the year", z.size(8), 1);
        due("all images", z.size(11), 3);
    }

    private static void trouble() {
        four("TROUBLE of the latest call that may be refused (those of which a number is told here):");
        OneAnswer x = made(TWO + ";truth a");
        due("of the latest", x.years(0), -1);
        x.feed(0, 0, 0, 0, 0);
        x.fault();
        x.where();
        x.size(0);
        x.size(-1);
        x.trouble();
        due("others leave it", x.trouble(), 2);

        four("0 it wasn't;");
        due("a call that answers", x.worlds(), 4);
        due("trouble", x.trouble(), 0);
        due("trouble of a new object", new OneAnswer().trouble(), 0);
        x.kin(9);
        due("-2 is an answer", x.known(0, 0), -2);
        due("trouble", x.trouble(), 0);

        four("1 there is none such;");
        x.kin(3);
        due("no such house", x.trouble(), 1);

        four("2 a number;");
        x.asking(0, 100);
        due("a number too great", x.trouble(), 2);

        four("3 no room;");
        for (int i = 0; i < 4; i++) {
            x.image();
        }
        due("a fourth image", x.trouble(), 3);

        four("4 a FAULT;");
        x.well(0);
        due("a text without a line", x.trouble(), 4);

        four("5 not so;");
        x.wed(0, 1);
        x.wed(1, 0);
        due("wed already", x.trouble(), 5);

        four("6 there is none.");
        x.undo();
        x.undo();
        due("none to undo", x.trouble(), 6);
    }
}
