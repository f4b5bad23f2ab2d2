import java.util.NoSuchElementException;

/** Promises 1 to 15, sentence by sentence: a new object, the well, worlds, who lies. */
final class EdgesOfWorlds {
    private static final String TWO = Texts.TWO;
    private static final String TORN = Texts.TORN;
    private static final String BARE = Texts.BARE;

    private EdgesOfWorlds() {
    }

    static void run() {
        newObject();
        feed();
        well();
        refusedWells();
        faultAndWhere();
        worlds();
        questions();
        chances();
        likeQuestions();
        liars();
        lies();
    }

    private static void says(int promise, String words) {
        Document.promise(promise, words);
    }

    private static OneAnswer made(String text) {
        return Edges.made(text);
    }

    private static void due(String what, long got, long want) {
        Check.due(what, got, want);
    }

    private static void newObject() {
        says(1, "No WELL.");
        OneAnswer x = new OneAnswer();
        due("NONE", OneAnswer.NONE, -1);
        due("trouble", x.trouble(), 0);
        due("fault", x.fault(), 0);
        due("where", x.where(), -1);
        for (int what = 0; what <= 12; what++) {
            due("size " + what, x.size(what), 0);
        }
        boolean thrown = false;
        try {
            x.led(0);
        } catch (NoSuchElementException e) {
            thrown = true;
        }
        Check.due("led", thrown, true);
        Edges.refused(x, "worlds", x::worlds, 1);
        Edges.denied(x, "undo", x::undo, 6);
        Edges.denied(x, "back", () -> x.back(0), 1);
    }

    private static void feed() {
        says(2, "Twenty bytes come behind THE TAPE,");
        OneAnswer x = new OneAnswer();
        // "well now 5;fact a od" and "ds 5;house h first 0" and "each 1 twins 0      "
        due("twenty", x.feed(0x77656c6c, 0x206e6f77, 0x20353b66, 0x61637420, 0x61206f64), 20);
        due("twenty more", x.feed(0x64732035, 0x3b686f75, 0x73652068, 0x20666972, 0x73742030), 40);
        due("and twenty", x.feed(0x65616368, 0x20312074, 0x77696e73, 0x20302020, 0x20202020), 60);
        due("a word in two parts is one", x.well(60), 1);
        due("the year", x.size(8), 5);

        says(2, "of each number the highest first:");
        due("the lowest byte is the last of four", placeOf(0x20353bff), 11);
        due("the highest byte is the first of four", placeOf(0xff20353b), 8);
        due("the second", placeOf(0x20ff353b), 9);
        due("the third", placeOf(0x2035ff3b), 10);

        says(2, "how many it has;");
        OneAnswer y = new OneAnswer();
        for (int i = 1; i <= 45; i++) {
            due("so many", y.feed(-1, 0, 1, Integer.MIN_VALUE, Integer.MAX_VALUE), 20 * i);
            due("as size says", y.size(12), 20 * i);
        }

        says(2, "NONE, and none comes, if there would be more than 900.");
        due("the 46th", y.feed(0, 0, 0, 0, 0), -1);
        due("the 47th", y.feed(0x20202020, 0, 0, 0, 0), -1);
        due("none came", y.size(12), 900);
        OneAnswer full = new OneAnswer();
        Check.feed(full, BARE + Texts.times(900 - BARE.length(), " "));
        due("no more", full.feed(0x23232323, 0x23232323, 0x23232323, 0x23232323, 0x23232323), -1);
        due("the text is as it was", full.well(900), 1);
        due("there is room again", full.feed(0, 0, 0, 0, 0), 20);
    }

    /** The place of the byte that begins no token, in "well now" and four bytes more. */
    private static int placeOf(int number) {
        OneAnswer x = new OneAnswer();
        x.feed(0x77656c6c, 0x206e6f77, number, 0x20202020, 0x20202020);
        x.well(20);
        return x.where();
    }

    private static void well() {
        says(3, "The first n bytes of THE TAPE");
        OneAnswer x = new OneAnswer();
        Check.feed(x, BARE + "#");
        due("all but one", x.well(BARE.length()), 1);
        Check.feed(x, BARE + "9");
        due("twins 0, not 9", x.well(BARE.length()), 1);
        due("no twins", x.births(0, 0, 99), 99);
        Check.feed(x, BARE);
        due("the last one is wanting", x.well(BARE.length() - 1), -1);
        due("place", x.where(), BARE.length() - 1);
        Check.feed(x, BARE);
        due("none of them", x.well(0), -1);
        due("a fault of an empty text", x.fault(), 1);
        due("its place", x.where(), 0);

        says(3, "(it is empty then)");
        due("behind a fault", x.size(12), 0);
        due("behind a well", Check.load(x, BARE), 1);
        due("empty", x.size(12), 0);
        due("from the beginning", x.feed(0, 0, 0, 0, 0), 20);
        due("what came first is read first", x.well(20), -1);
        due("place", x.where(), 0);

        says(3, "are the WELL from now on");
        OneAnswer y = made(Texts.full());
        y.ask(0, 0);
        y.wed(4, 5);
        y.years(9);
        due("a smaller one", Check.load(y, BARE), 1);
        int[] sizes = {1, 0, 1, 0, 0, 0, 0, 0, 0, 0, 0, 0, 0};
        for (int what = 0; what < sizes.length; what++) {
            due("size " + what, y.size(what), sizes[what]);
        }
        due("worlds", y.worlds(), 2);
        due("kin", y.kin(0), 1);
        due("no end, no twins", y.asking(0, 99), 99);
        due("turns", y.turnsTo(999), 1000);
        Check.load(y, BARE + ";question q b");
        due("names of another text aren't told", y.fault(), 2);
        Check.load(y, Texts.full());
        due("and the full one again", y.size(5), 12);
        afresh();

        says(3, "(nothing to undo, no IMAGES):");
        OneAnswer z = made(TWO + ";truth a");
        z.ask(0, 0);
        z.image();
        Check.load(z, TWO);
        due("acts", z.size(10), 0);
        due("images", z.size(11), 0);
        Edges.denied(z, "undo", z::undo, 6);
        Edges.denied(z, "back", () -> z.back(0), 1);
        due("a first image", z.image(), 0);

        says(3, "how many HOUSES.");
        String houses = "well now 0;fact a odds 2";
        for (int i = 1; i <= 6; i++) {
            houses += ";house h" + (char) ('a' + i) + " first 0 each 1 twins 0";
            String text = houses;
            OneAnswer w = new OneAnswer();
            Edges.taken(w, "a well of " + i, () -> Check.load(w, text), i);
        }
    }

    /** Whatever texts an object had, a text is read as by a new one. */
    private static void afresh() {
        String[] ahead = {Texts.full().replace("stone no", "stone yes"), "well now 5;fact a odds 5;law not",
            "well now 5;fact a odds 5;law not (not (not", "well now 5;fact a odds 5;law (a and not",
            "well now 5;fact a odds 5;law a or (a and (not", "well now 5;fact a odds 5;truth a;law a and not a"};
        String text = "well now 0;fact b odds 3;fact c odds 4;house g first 0 each 1 twins 0;"
            + "question m c and (b or (c))";
        for (String one : ahead) {
            for (String other : ahead) {
                OneAnswer x = new OneAnswer();
                Check.load(x, one);
                Check.load(x, other);
                due("a well behind " + one + " and " + other, Check.load(x, text), 1);
                int[] sizes = {2, 0, 1, 0, 1, 0, 0, 0, 0, 0, 0, 0, 0};
                for (int what = 0; what < sizes.length; what++) {
                    due("size " + what, x.size(what), sizes[what]);
                }
                for (int world = 0; world < 4; world++) {
                    due("so in " + world, x.isSo(0, world), world >> 1);
                    due("can be " + world, x.canBe(world), 1);
                }
                due("odds", x.odds(3), 12);
                due("kin", x.kin(0), 1);
                due("sets", x.sets(), 2);
                due("graves", x.graves(0), 0);
                due("no end, no twins", x.asking(0, 99), 99);
                due("no stone", x.could(0), -1);
            }
            OneAnswer y = new OneAnswer();
            Check.load(y, one);
            Check.load(y, one);
            Check.load(y, text + ";stone no");
            due("its own stone", y.could(0), 1);
            due("says no", y.surely(0), 0);
            Check.load(y, text + ";law not c;stone no");
            due("of what isn't so", y.surely(0), 1);
        }
    }

    private static void refusedWells() {
        says(3, "NONE: 2 (THE TAPE stays);");
        OneAnswer x = new OneAnswer();
        Edges.refused(x, "of no bytes", () -> x.well(1), 2);
        Edges.refused(x, "less than none", () -> x.well(-1), 2);
        Check.feed(x, BARE);
        int size = x.size(12);
        for (int n : new int[] {size + 1, 899, 900, 901, -1, -20, Integer.MIN_VALUE, Integer.MAX_VALUE}) {
            Edges.refused(x, "of " + n, () -> x.well(n), 2);
        }
        due("the tape is as it was", x.well(size), 1);
        OneAnswer full = new OneAnswer();
        for (int i = 0; i < 45; i++) {
            full.feed(0, 0, 0, 0, 0);
        }
        Edges.refused(full, "of 901", () -> full.well(901), 2);
        due("of 900, by a fault", full.well(900), -1);
        due("trouble", full.trouble(), 4);

        says(3, "4 (the WELL stays).");
        OneAnswer y = made(TWO + ";truth a;told h qa yes;stone no;law a or b");
        y.lie(1, 0);
        y.wed(0, 2);
        y.years(7);
        y.image();
        int[] before = answersOf(y);
        for (String faulty : new String[] {"", "well now 9",
            "well now 9;fact x odds 5;house a first 0 each 1 twins 0;#", Texts.full() + ";",
            "well now 9;fact x odds 5;" + Texts.HOUSE + ";law x and not x"}) {
            due("a fault", Check.load(y, faulty), -1);
            due("trouble", y.trouble(), 4);
            int[] behind = answersOf(y);
            for (int i = 0; i < before.length; i++) {
                due("answer " + i + " is as it was", behind[i], before[i]);
            }
        }
        Check.due("undo the years", y.undo(), true);
        due("the year", y.size(8), 0);
        Check.due("undo the wedding", y.undo(), true);
        Check.due("undo the lie", y.undo(), true);
        due("answers", y.size(5), 1);
        Check.due("back", y.back(0), true);
        due("the year", y.size(8), 7);
    }

    private static int[] answersOf(OneAnswer x) {
        return new int[] {x.size(0), x.size(1), x.size(2), x.size(3), x.size(4), x.size(5), x.size(6), x.size(7),
            x.size(8), x.size(9), x.size(10), x.size(11), x.worlds(), x.canBe(0), x.liars(), x.kin(0), x.left(0),
            x.known(1, 0), x.could(0), x.turnsTo(99)};
    }

    private static void faultAndWhere() {
        says(4, "The FAULT of the latest well() not refused by 2;");
        OneAnswer x = new OneAnswer();
        String[] texts = {"#", "well now 5;law a", "well now 5;well", "well now 5;fact a odds 0",
            "well now 5;fact a odds 5;law ((((((((((", "fact", "well now 5;fact a odds 5;law a and not a"};
        for (int i = 0; i < texts.length; i++) {
            Check.load(x, texts[i]);
            due("fault", x.fault(), i + 1);
            x.well(1);
            due("trouble", x.trouble(), 2);
            due("it stays by 2", x.fault(), i + 1);
            x.worlds();
            due("it stays by other calls", x.fault(), i + 1);
        }

        says(4, "0 without one.");
        due("of a new object", new OneAnswer().fault(), 0);
        Check.load(x, BARE);
        due("of a well behind a fault", x.fault(), 0);
        x.well(1);
        due("of one refused by 2 behind a well", x.fault(), 0);

        says(5, "Its place, if the latest call that may be refused was by 4;");
        OneAnswer y = new OneAnswer();
        Check.load(y, "#");
        due("the first place", y.where(), 0);
        Check.load(y, BARE + Texts.times(899 - BARE.length(), " ") + "#");
        due("the last place", y.where(), 899);
        Check.load(y, "well now 5" + Texts.times(890, " "));
        due("the end of a full tape", y.where(), 900);
        y.feed(0, 0, 0, 0, 0);
        y.size(0);
        y.fault();
        y.trouble();
        due("behind calls that aren't refused", y.where(), 900);
        due("once more", y.where(), 900);

        says(5, "NONE else.");
        due("of a new object", new OneAnswer().where(), -1);
        y.worlds();
        due("behind another that is refused", y.where(), -1);
        due("the fault stays", y.fault(), 6);
        y.well(0);
        due("an empty text", y.where(), 0);
        y.well(1);
        due("refused by 2", y.where(), -1);
        Check.load(y, BARE);
        due("a well", y.where(), -1);
        Check.load(y, "#");
        y.worlds();
        due("behind one that isn't refused", y.where(), -1);
    }

    private static void worlds() {
        says(6, "Whether a WORLD CAN BE: 1, 0.");
        OneAnswer x = made(TWO + ";law a or b");
        int[] canBe = {0, 1, 1, 1};
        for (int world = 0; world < 4; world++) {
            int w = world;
            Edges.taken(x, "canBe " + world, () -> x.canBe(w), canBe[world]);
        }
        due("the last of 64", made(Texts.full()).canBe(63), 1);
        due("the one ahead of it", made(Texts.full()).canBe(62), 0);

        says(6, "NONE: 1.");
        Edges.noneSuch("canBe", Edges.Sort.WORLD, (y, world) -> y.canBe(world));

        says(7, "How many CAN BE.");
        Edges.taken(x, "worlds", x::worlds, 3);
        due("of one fact", made(BARE).worlds(), 2);
        due("one", made(TWO + ";law a;law b").worlds(), 1);
        due("answers take none", made(TORN).worlds(), 4);
        due("of six facts", made(Texts.full()).worlds(), 32);

        says(7, "NONE: 1 (no WELL).");
        Edges.needsWell("worlds", (y, i) -> y.worlds());

        says(8, "ODDS of a WORLD.");
        OneAnswer bare = made(BARE);
        Edges.taken(bare, "odds", () -> bare.odds(1), 2);
        Edges.taken(bare, "odds", () -> bare.odds(0), 8);
        due("of one that can't be, too", x.odds(0), 25);

        says(8, "NONE: 1.");
        Edges.noneSuch("odds", Edges.Sort.WORLD, (y, world) -> y.odds(world));
    }

    private static void questions() {
        says(9, "Whether a question is so in a WORLD: 1, 0.");
        OneAnswer x = made(TWO + ";law a");
        int[][] so = {{0, 1, 0, 1}, {0, 0, 1, 1}, {0, 0, 0, 1}, {0, 1, 1, 1}};
        for (int question = 0; question < 4; question++) {
            for (int world = 0; world < 4; world++) {
                int q = question;
                int w = world;
                Edges.taken(x, "isSo " + q + " in " + w, () -> x.isSo(q, w), so[q][w]);
            }
        }

        says(9, "NONE: 1.");
        Edges.noneSuch("isSo of a question", Edges.Sort.QUESTION, (y, question) -> y.isSo(question, 0));
        OneAnswer full = made(Texts.full());
        Edges.refused(full, "isSo in world 64", () -> full.isSo(0, 64), 1);
        Edges.refused(full, "isSo in world -1", () -> full.isSo(7, -1), 1);
        Edges.taken(full, "isSo in world 63", () -> full.isSo(7, 63), 1);
        Edges.refused(x, "isSo in world 4", () -> x.isSo(0, 4), 1);
        Edges.refused(x, "isSo of neither", () -> x.isSo(4, 4), 1);
    }

    private static void chances() {
        says(10, "How likely a question is so, of WORLDS that CAN BE, by ODDS,");
        String land = "well now 0;fact a odds 2;fact b odds 5;" + Texts.HOUSE
            + ";question qa a;question qb b;question qc a and b;question qd a or b;"
            + "question qe a and not a;question qf a or not a";
        OneAnswer x = made(land + ";law a or b");
        // of 10 + 40 + 10
        due("a", x.chance(0, false) * 100 + x.chance(0, true), 103);
        due("b", x.chance(1, false) * 100 + x.chance(1, true), 506);
        due("answers tell nothing here", made(land + ";told z qa yes").chance(0, true), 5);

        says(10, "the upper WHOLE or the lower, in lowest terms");
        OneAnswer y = made(land);
        Edges.taken(y, "upper", () -> y.chance(2, false), 1);
        Edges.taken(y, "lower", () -> y.chance(2, true), 10);
        due("upper", y.chance(3, false), 3);
        due("lower", y.chance(3, true), 5);
        due("always", y.chance(5, false), 1);
        due("by 1", y.chance(5, true), 1);
        OneAnswer six = made("well now 0;" + Texts.each("abcdef", "fact ", " odds 9") + Texts.HOUSE
            + ";question q a and b and c and d and e and f");
        due("the greatest", six.chance(0, false), 531441);
        due("by a million", six.chance(0, true), 1000000);

        says(10, "(0 by 1).");
        due("never", y.chance(4, false), 0);
        due("by 1", y.chance(4, true), 1);
        due("by a law", made(land + ";law not a").chance(0, true), 1);

        says(10, "-1: 1.");
        Edges.noneSuch("chance", Edges.Sort.QUESTION, (z, question) -> z.chance(question, false));
        Edges.noneSuch("chance", Edges.Sort.QUESTION, (z, question) -> z.chance(question, true));
    }

    private static void likeQuestions() {
        says(11, "Questions that are so just as a question is, in all WORLDS that CAN BE, as bits.");
        OneAnswer x = made(TWO + ";law b or not a");
        Edges.taken(x, "a as a and b", () -> x.alike(0), 0b0101);
        due("a and b as a", x.alike(2), 0b0101);
        due("b as a or b", x.alike(1), 0b1010);
        OneAnswer y = made(TWO);
        for (int question = 0; question < 4; question++) {
            due("itself alone", y.alike(question), 1 << question);
        }
        due("all eight", made(Texts.full()).alike(7), 255);
        due("what is never so", made(TWO + ";question qe a and not a").alike(4), 0b10000);
        due("by a law", made(TWO + ";law not a").alike(2), 0b0101);
        due("what is always so", made(TWO + ";law a").alike(3), 0b1001);
        due("what answers tell counts nothing", made(TWO + ";told h qc yes").alike(0), 1);

        says(11, "NONE: 1.");
        Edges.noneSuch("alike", Edges.Sort.QUESTION, (z, question) -> z.alike(question));

        says(12, "Whether, of WORLDS that CAN BE, in all in which one question is so another one is: 1, 0.");
        Edges.taken(y, "both, one", () -> y.implies(2, 0), 1);
        Edges.taken(y, "one, both", () -> y.implies(0, 2), 0);
        due("itself", y.implies(3, 3), 1);
        due("by a law", x.implies(0, 1), 1);
        due("not turned round", x.implies(1, 0), 0);
        due("what is never so", made(TWO + ";law not a;law not b").implies(0, 1), 1);
        due("what never is by a law", made(TWO + ";law not a").implies(0, 1), 1);
        due("what always is", made(TWO + ";law a").implies(1, 0), 1);

        says(12, "NONE: 1.");
        Edges.noneSuch("implies of one", Edges.Sort.QUESTION, (z, question) -> z.implies(question, 0));
        Edges.noneSuch("implies of another", Edges.Sort.QUESTION, (z, question) -> z.implies(0, question));
    }

    private static void liars() {
        says(13, "LIARS, as bits;");
        OneAnswer x = made(TWO + ";told h qa yes;told j qa no;told i qa yes");
        Edges.taken(x, "the third", x::liars, 4);
        due("nobody", made(TWO).liars(), 0);
        due("the sixth", made("well now 0;fact a odds 5;" + Texts.each("ghijkl", "house ", " first 0 each 1 twins 0")
            + "question q a;" + Texts.each("ghijk", "told ", " q yes") + "told l q no").liars(), 32);

        says(13, "-2 nobody can make them so.");
        OneAnswer torn = made(TORN);
        Edges.taken(torn, "torn", torn::liars, -2);
        due("one of two that can't be both, nor neither",
            made(TWO
            + ";question qe a and b or not a and not b;question qf a and not b or b and not a;"
            + "told h qe yes;told h qf yes").liars(), -2);

        says(13, "NONE: 1 (no WELL).");
        Edges.needsWell("liars", (y, i) -> y.liars());

        says(14, "Of how many sets of HOUSES, whichever, it could be so.");
        Edges.taken(x, "the third, or the two others", x::sets, 2);
        due("any of three", made(TWO).sets(), 8);
        due("any of one", made(BARE).sets(), 2);
        due("any of six", made("well now 0;fact a odds 5;" + Texts.each("ghijkl", "house ", " first 0 each 1 twins 0")
            + "stone no").sets(), 64);
        Edges.taken(torn, "none", torn::sets, 0);
        due("larger ones count, too", made(TWO + ";told h qa yes").sets(), 8);

        says(14, "NONE: 1 (no WELL).");
        Edges.needsWell("sets", (y, i) -> y.sets());
    }

    private static void lies() {
        says(15, "Whether a HOUSE lies in none of the sets that have as few as LIARS (0), in some (1), in all (2);");
        OneAnswer x = made(TWO + ";told h qa no;told i qa yes;told j qa yes");
        Edges.taken(x, "in all", () -> x.lies(0), 2);
        Edges.taken(x, "in a larger one alone", () -> x.lies(1), 0);
        OneAnswer y = made(TWO + ";told h qa no;told i qa yes");
        Edges.taken(y, "in the one", () -> y.lies(0), 1);
        Edges.taken(y, "in the other", () -> y.lies(1), 1);
        Edges.taken(y, "in neither, but in larger ones", () -> y.lies(2), 0);
        OneAnswer nobody = made(TWO);
        for (int house = 0; house < 3; house++) {
            due("nobody need lie", nobody.lies(house), 0);
        }
        OneAnswer both = made(TWO + ";law a;told h qa no;told i qb yes;told j qb no");
        due("in both sets of two", both.lies(0), 2);
        due("in the first of them", both.lies(1), 1);
        due("in the second", both.lies(2), 1);
        due("the first of them", both.liars(), 3);

        says(15, "-2 there are none.");
        OneAnswer torn = made(TORN);
        for (int house = 0; house < 3; house++) {
            int h = house;
            Edges.taken(torn, "torn", () -> torn.lies(h), -2);
        }

        says(15, "NONE: 1.");
        Edges.noneSuch("lies", Edges.Sort.HOUSE, (z, house) -> z.lies(house));
        Edges.refused(torn, "no house without sets", () -> torn.lies(3), 1);
    }
}
