import java.util.NoSuchElementException;

/** Promises 40 to 54, sentence by sentence: turns, acts, what is told. */
final class EdgesOfActs {
    private static final String TWO = Texts.TWO;
    private static final String TORN = Texts.TORN;
    private static final String BARE = Texts.BARE;
    private static final String TRUE = TWO + ";truth a";
    private static final String TURNS = "well now 10;fact a odds 5;house h first 10 each 5 twins 0;"
        + "house i first 999 each 99 twins 0;house j first 1 each 9 twins 0;twin j 1;ends j 20";
    private static final int[] WILD = {Integer.MIN_VALUE, -100, -1, 100, 101, 1000, Integer.MAX_VALUE};

    private EdgesOfActs() {
    }

    static void run() {
        asking();
        next();
        turnOf();
        turnsTo();
        births();
        ask();
        lie();
        wed();
        years();
        undo();
        undoEach();
        image();
        back();
        led();
        size();
        trouble();
    }

    private static void says(int promise, String words) {
        Document.promise(promise, words);
    }

    private static OneAnswer made(String text) {
        return Edges.made(text);
    }

    private static void due(String what, long got, long want) {
        Check.due(what, got, want);
    }

    private static void asking() {
        says(40, "The year of a HOUSE's i-th ASKING (0 .. 99);");
        OneAnswer x = made(TURNS);
        Edges.taken(x, "the first", () -> x.asking(0, 0), 10);
        Edges.taken(x, "the last that is told of", () -> x.asking(0, 99), 505);
        Edges.taken(x, "far behind the last year", () -> x.asking(1, 99), 10800);
        Edges.taken(x, "twins", () -> x.asking(2, 2), 10);
        Edges.taken(x, "behind them", () -> x.asking(2, 3), 19);

        says(40, "-2 it has ended.");
        Edges.taken(x, "the first behind the end", () -> x.asking(2, 4), -2);
        Edges.taken(x, "the hundredth", () -> x.asking(2, 99), -2);
        due("ended at once", made(BARE + ";ends h 0").asking(0, 0), -2);

        says(40, "NONE: 1; 2.");
        Edges.noneSuch("asking", Edges.Sort.HOUSE, (y, house) -> y.asking(house, 0));
        for (int i : WILD) {
            Edges.refused(x, "asking " + i, () -> x.asking(0, i), 2);
            Edges.refused(x, "asking of an ended one " + i, () -> x.asking(2, i), 2);
            Edges.refused(x, "1 ahead of 2, " + i, () -> x.asking(3, i), 1);
        }
    }

    private static void next() {
        says(41, "The year of its next one, NOW's, too;");
        OneAnswer x = made(TURNS);
        Edges.taken(x, "now's, the first", () -> x.next(0), 10);
        Edges.taken(x, "one that is far off", () -> x.next(1), 999);
        Edges.taken(x, "now's, of twins", () -> x.next(2), 10);
        x.years(1);
        Edges.taken(x, "a year later", () -> x.next(0), 15);
        Edges.taken(x, "the last one", () -> x.next(2), 19);
        x.years(4);
        due("now's, the second", x.next(0), 15);
        x.years(4);
        due("now's, the last one", x.next(2), 19);
        OneAnswer late = made("well now 999;fact a odds 5;house h first 999 each 99 twins 0;"
            + "house i first 998 each 99 twins 0;house j first 0 each 27 twins 0");
        due("in the last year", late.next(0), 999);
        due("behind the last year", late.next(1), 1097);
        due("in the last year, far from the first", late.next(2), 999);

        says(41, "-2.");
        x.years(1);
        Edges.taken(x, "in the year in which it ends", () -> x.next(2), -2);
        due("behind", made(BARE.replace("now 0", "now 9") + ";ends h 9").next(0), -2);
        due("ended at once", made(BARE + ";ends h 0").next(0), -2);
        due("not yet", made(BARE.replace("now 0", "now 9") + ";ends h 10").next(0), 9);
        due("no next ahead of the end",
            made("well now 5;fact a odds 5;house h first 4 each 9 twins 0;ends h 13").next(0), -2);
        due("one ahead of the end",
            made("well now 5;fact a odds 5;house h first 4 each 9 twins 0;ends h 14").next(0), 13);

        says(41, "NONE: 1.");
        Edges.noneSuch("next", Edges.Sort.HOUSE, (y, house) -> y.next(house));
    }

    private static void turnOf() {
        says(42, "Whose the i-th of all TURNS (0 .. 99) is;");
        OneAnswer x = made(TURNS);
        // 1 j, 10 h j j, 15 h, 19 j, then h alone: the hundredth is h's 96th, in 485
        int[] houses = {2, 0, 2, 2, 0, 2, 0, 0};
        for (int i = 0; i < houses.length; i++) {
            int turn = i;
            Edges.taken(x, "turn " + i, () -> x.turnOf(turn), houses[i]);
        }
        Edges.taken(x, "the last that is told of", () -> x.turnOf(99), 0);
        // six turns in each year: the hundredth is the fourth of the seventeenth
        String six = "well now 0;fact a odds 5;" + Texts.each("ghijkl", "house ", " first 0 each 1 twins 0");
        due("of six houses", made(six + "stone no").turnOf(99), 3);
        due("the one ahead of it", made(six + "stone no").turnOf(98), 2);
        due("what was asked counts nothing", made(TURNS + ";question q a;told h q yes").turnOf(0), 2);

        says(42, "-2 there is none.");
        OneAnswer ended = made("well now 0;fact a odds 5;house h first 0 each 2 twins 0;house i first 1 each 1 twins 0;"
            + "twin i 1;ends h 3;ends i 3");
        // 0 h, 1 i, 2 h i i
        Edges.taken(ended, "the last", () -> ended.turnOf(4), 1);
        Edges.taken(ended, "behind it", () -> ended.turnOf(5), -2);
        Edges.taken(ended, "the hundredth", () -> ended.turnOf(99), -2);
        due("ended at once", made(BARE + ";ends h 0").turnOf(0), -2);

        says(42, "NONE: 1 (no WELL); 2.");
        Edges.needsWell("turnOf", (y, i) -> y.turnOf(i));
        OneAnswer none = new OneAnswer();
        for (int i : WILD) {
            Edges.refused(x, "turnOf " + i, () -> x.turnOf(i), 2);
            Edges.refused(none, "1 ahead of 2, " + i, () -> none.turnOf(i), 1);
        }
    }

    private static void turnsTo() {
        says(43, "How many TURNS there are up to a year, that one too (0 .. 999).");
        OneAnswer x = made(TURNS);
        int[][] rows = {{0, 0}, {1, 1}, {2, 1}, {9, 1}, {10, 4}, {14, 4}, {15, 5}, {19, 6}, {20, 7}, {998, 202},
            {999, 203}};
        for (int[] row : rows) {
            Edges.taken(x, "up to " + row[0], () -> x.turnsTo(row[0]), row[1]);
        }
        due("all years", made(BARE).turnsTo(999), 1000);
        due("the first year", made(BARE).turnsTo(0), 1);
        due("of twins", made(BARE + ";twin h 0;twin h 30").turnsTo(29), 31);
        due("of the thirtieth, too", made(BARE + ";twin h 0;twin h 30").turnsTo(30), 33);
        due("and one more", made(BARE + ";twin h 0;twin h 30").turnsTo(31), 34);
        due("of six houses",
            made("well now 0;fact a odds 5;" + Texts.each("ghijkl", "house ", " first 0 each 1 twins 0")
            + Texts.each("012345", "twin g ", "") + "stone no").turnsTo(999), 6006);
        due("ended at once", made(BARE + ";ends h 0").turnsTo(999), 0);
        due("none in the year of the end", made(BARE + ";ends h 7").turnsTo(7), 7);
        due("twins behind the end", made(BARE + ";ends h 7;twin h 6;twin h 7").turnsTo(999), 8);

        says(43, "NONE: 1 (no WELL); 2.");
        Edges.needsWell("turnsTo", (y, year) -> y.turnsTo(year));
        OneAnswer none = new OneAnswer();
        for (int year : new int[] {Integer.MIN_VALUE, -1, 1000, 1001, Integer.MAX_VALUE}) {
            Edges.refused(x, "up to " + year, () -> x.turnsTo(year), 2);
            Edges.refused(none, "1 ahead of 2, " + year, () -> none.turnsTo(year), 1);
        }
    }

    private static void births() {
        says(44, "BIRTHS (n 0 .. 99; SEED 0 .. 65,536).");
        OneAnswer x = made("well now 0;fact a odds 5;house h first 0 each 1 twins 37;house i first 0 each 1 twins 0");
        Edges.taken(x, "none", () -> x.births(0, 65536, 0), 0);
        Edges.taken(x, "one", () -> x.births(0, 65536, 1), 2);
        Edges.taken(x, "99", () -> x.births(0, 65536, 99), 198);
        Edges.taken(x, "never twins", () -> x.births(1, 65536, 99), 99);
        Edges.taken(x, "the least seed", () -> x.births(0, 0, 1), 1);
        Edges.taken(x, "the same again", () -> x.births(0, 65536, 1), 2);
        due("one that ends has births, too", made("well now 0;fact a odds 5;house h first 0 each 1 twins 37;ends h 0")
            .births(0, 65536, 9), 18);

        says(44, "NONE: 1; 2.");
        Edges.noneSuch("births", Edges.Sort.HOUSE, (y, house) -> y.births(house, 1, 1));
        for (int n : WILD) {
            Edges.refused(x, "of " + n, () -> x.births(0, 1, n), 2);
            Edges.refused(x, "1 ahead of 2, of " + n, () -> x.births(2, 1, n), 1);
        }
        for (int seed : new int[] {Integer.MIN_VALUE, -1, 65537, 65538, Integer.MAX_VALUE}) {
            Edges.refused(x, "seed " + seed, () -> x.births(0, seed, 1), 2);
            Edges.refused(x, "seed, of no generations " + seed, () -> x.births(0, seed, 0), 2);
            Edges.refused(x, "1 ahead of 2, seed " + seed, () -> x.births(-1, seed, 1), 1);
        }
    }

    private static void ask() {
        says(45, "ASK: 1 yes, 0 no.");
        OneAnswer x = made(TRUE);
        int[] truth = {1, 0, 0, 1};
        for (int question = 0; question < 4; question++) {
            int q = question;
            Edges.taken(x, "ask " + question, () -> x.ask(1, q), truth[question]);
            due("told", x.told(question, 2), truth[question]);
            due("by", x.told(question, 0), 1);
            due("of", x.told(question, 1), question);
            due("acts", x.size(10), question + 1);
        }
        due("it is known now", x.known(1, 2), 0);
        OneAnswer against = made(TRUE + ";told h qa no");
        due("nobody lies", against.liars(), 0);
        against.ask(1, 0);
        due("one of two lies", against.liars(), 1);
        due("four sets", against.sets(), 4);
        against.ask(2, 0);
        due("one against two", against.lies(0), 2);
        due("truth of no fact", made(TWO + ";truth none").ask(0, 3), 0);
        OneAnswer ended = made(TRUE + ";ends h 0");
        due("whoever's turn it is", ended.ask(0, 0), 1);

        says(45, "NONE: 1;");
        Edges.noneSuch("ask by a house", Edges.Sort.HOUSE, (y, house) -> y.ask(house, 0),
            new String[] {TRUE, Texts.full()});
        Edges.noneSuch("ask a question", Edges.Sort.QUESTION, (y, question) -> y.ask(0, question));

        says(45, "6 (no truth);");
        OneAnswer dark = made(TWO + Texts.times(12, ";told h qa yes"));
        Edges.refused(dark, "ask", () -> dark.ask(0, 0), 6);
        Edges.refused(dark, "1 ahead of 6", () -> dark.ask(0, 4), 1);
        Edges.refused(dark, "1 ahead of 6", () -> dark.ask(3, 0), 1);

        says(45, "3 (20 answers are told).");
        OneAnswer full = made(TRUE + Texts.times(12, ";told h qa yes"));
        for (int i = 12; i < 20; i++) {
            Edges.taken(full, "ask", () -> full.ask(0, 0), 1);
            due("answers", full.size(5), i + 1);
        }
        Edges.refused(full, "the 21st", () -> full.ask(0, 0), 3);
        Edges.refused(full, "1 ahead of 3", () -> full.ask(0, 4), 1);
        Edges.done(full, "undo", full::undo);
        Edges.taken(full, "there is room again", () -> full.ask(1, 1), 0);
        Edges.refused(full, "and none", () -> full.ask(1, 1), 3);
        OneAnswer none = made(TRUE);
        for (int i = 0; i < 20; i++) {
            none.lie(0, 0);
        }
        due("twenty by acts alone", none.size(5), 20);
        Edges.refused(none, "the 21st", () -> none.ask(0, 0), 3);
    }

    private static void lie() {
        says(46, "LIE: what it tells.");
        OneAnswer x = made(TRUE);
        int[] lies = {0, 1, 1, 0};
        for (int question = 0; question < 4; question++) {
            int q = question;
            Edges.taken(x, "lie " + question, () -> x.lie(2, q), lies[question]);
            due("told", x.told(question, 2), lies[question]);
            due("by", x.told(question, 0), 2);
            due("of", x.told(question, 1), question);
            due("acts", x.size(10), question + 1);
        }
        due("two graves", x.graves(2), 2);
        OneAnswer against = made(TRUE + ";told h qa yes;told i qa yes");
        due("nobody lies", against.liars(), 0);
        against.lie(2, 0);
        due("the third does", against.liars(), 4);
        against.lie(2, 1);
        due("sets", against.sets(), 2);

        says(46, "NONE: likewise.");
        Edges.noneSuch("lie by a house", Edges.Sort.HOUSE, (y, house) -> y.lie(house, 0),
            new String[] {TRUE, Texts.full()});
        Edges.noneSuch("lie of a question", Edges.Sort.QUESTION, (y, question) -> y.lie(0, question));
        OneAnswer dark = made(TWO + Texts.times(12, ";told h qa yes"));
        Edges.refused(dark, "no truth", () -> dark.lie(0, 0), 6);
        Edges.refused(dark, "1 ahead of 6", () -> dark.lie(0, 4), 1);
        OneAnswer full = made(TRUE + Texts.times(12, ";told h qa yes"));
        for (int i = 12; i < 20; i++) {
            Edges.taken(full, "lie", () -> full.lie(0, 0), 0);
        }
        Edges.refused(full, "the 21st", () -> full.lie(0, 0), 3);
        Edges.refused(full, "1 ahead of 3", () -> full.lie(-1, 0), 1);
    }

    private static void wed() {
        says(47, "WED: true;");
        OneAnswer x = made(TRUE + ";told j qa yes");
        Edges.done(x, "wed", () -> x.wed(2, 0));
        due("kin", x.kin(0), 5);
        due("known now", x.known(0, 0), 1);
        due("weddings", x.size(7), 1);
        due("acts", x.size(10), 1);
        Edges.done(x, "kin of kin", () -> x.wed(1, 2));
        Edges.done(x, "kin that aren't wed", () -> x.wed(0, 1));
        due("weddings", x.size(7), 3);
        OneAnswer full = made(Texts.full());
        int more = 0;
        for (int a = 0; a < 6; a++) {
            for (int b = a + 1; b < 6; b++) {
                more += full.wed(b, a) ? 1 : 0;
            }
        }
        due("seven more than the text may have", more, 7);
        due("all of fifteen", full.size(7), 15);

        says(47, "false: 1 (unlike);");
        Edges.noneSuch("wed one", Edges.Sort.HOUSE, (y, house) -> y.wed(house, house == 0 ? 1 : 0) ? 1 : 0,
            new String[] {"", TWO, Texts.full().replaceAll(";weds.*", "")}, 0);
        Edges.noneSuch("wed another", Edges.Sort.HOUSE, (y, house) -> y.wed(house == 0 ? 1 : 0, house) ? 1 : 0,
            new String[] {"", TWO, Texts.full().replaceAll(";weds.*", "")}, 0);
        for (int house = 0; house < 3; house++) {
            int h = house;
            Edges.denied(x, "to itself", () -> x.wed(h, h), 1);
        }
        OneAnswer bare = made(BARE);
        Edges.denied(bare, "one house", () -> bare.wed(0, 0), 1);
        Edges.denied(bare, "one house", () -> bare.wed(0, 1), 1);
        Edges.denied(bare, "no house", () -> bare.wed(-1, -1), 1);

        says(47, "5 (they are wed already).");
        Edges.denied(x, "again", () -> x.wed(2, 0), 5);
        Edges.denied(x, "turned round", () -> x.wed(0, 2), 5);
        OneAnswer text = made(TWO + ";weds h j");
        Edges.denied(text, "by the text", () -> text.wed(0, 2), 5);
        Edges.denied(text, "by the text, turned round", () -> text.wed(2, 0), 5);
        Edges.done(text, "not these", () -> text.wed(1, 2));
        Edges.done(text, "undone", text::undo);
        Edges.done(text, "they may again", () -> text.wed(2, 1));
    }

    private static void years() {
        says(48, "YEARS (1 .. 99): the year then.");
        OneAnswer x = made(TRUE);
        Edges.taken(x, "one", () -> x.years(1), 1);
        Edges.taken(x, "99", () -> x.years(99), 100);
        due("now", x.size(8), 100);
        due("acts", x.size(10), 2);

        says(48, "NONE: 1 (no WELL);");
        Edges.needsWell("years", (y, i) -> y.years(i + 1));
        OneAnswer none = new OneAnswer();
        Edges.refused(none, "1 ahead of 2", () -> none.years(0), 1);
        Edges.refused(none, "1 ahead of 2", () -> none.years(100), 1);

        says(48, "2;");
        for (int n : new int[] {Integer.MIN_VALUE, -1, 0, 100, 101, Integer.MAX_VALUE}) {
            Edges.refused(x, "of " + n, () -> x.years(n), 2);
        }

        says(48, "3 (above 999).");
        OneAnswer late = made(BARE.replace("now 0", "now 990"));
        Edges.refused(late, "1000", () -> late.years(10), 3);
        Edges.refused(late, "1089", () -> late.years(99), 3);
        Edges.refused(late, "2 ahead of 3", () -> late.years(100), 2);
        Edges.taken(late, "999", () -> late.years(9), 999);
        Edges.refused(late, "1000", () -> late.years(1), 3);
        Edges.refused(late, "2 ahead of 3", () -> late.years(0), 2);
        OneAnswer last = made(BARE.replace("now 0", "now 999"));
        Edges.refused(last, "1000", () -> last.years(1), 3);
    }

    private static void undo() {
        says(49, "UNDO: true;");
        OneAnswer x = made(TRUE);
        for (int i = 0; i < 13; i++) {
            x.years(1);
        }
        for (int i = 0; i < 12; i++) {
            Edges.done(x, "undo", x::undo);
            due("acts", x.size(10), 11 - i);
            due("the year", x.size(8), 12 - i);
        }

        says(49, "false: 6.");
        Edges.denied(x, "the thirteenth", x::undo, 6);
        OneAnswer none = new OneAnswer();
        Edges.denied(none, "without a well", none::undo, 6);
        OneAnswer fresh = made(TRUE);
        Edges.denied(fresh, "of no acts", fresh::undo, 6);
        fresh.ask(0, 9);
        fresh.wed(0, 0);
        fresh.years(0);
        fresh.image();
        Edges.denied(fresh, "refused acts are none, nor images", fresh::undo, 6);
        OneAnswer told = made(TWO + ";told h qa yes;weds h i");
        Edges.denied(told, "what the text tells is no act", told::undo, 6);
    }

    private static void undoEach() {
        says(49, "UNDO: true;");
        OneAnswer x = made(TRUE + ";told h qa no;weds h i");
        x.ask(1, 0);
        x.wed(0, 2);
        x.lie(2, 3);
        x.years(3);
        x.ask(2, 1);
        x.wed(1, 2);
        int[][] left = {{4, 2, 3}, {3, 2, 3}, {3, 2, 0}, {2, 2, 0}, {2, 1, 0}, {1, 1, 0}};
        // while the third says that neither is so, the second must lie
        int[] liars = {2, 2, 2, 1, 1, 0};
        for (int i = 0; i < left.length; i++) {
            Edges.done(x, "undo", x::undo);
            due("answers", x.size(5), left[i][0]);
            due("weddings", x.size(7), left[i][1]);
            due("the year", x.size(8), left[i][2]);
            due("liars of " + i, x.liars(), liars[i]);
        }
        due("kin", x.kin(0), 3);
        due("kin", x.kin(2), 4);
        OneAnswer y = made(TRUE);
        y.years(50);
        y.wed(0, 1);
        y.years(7);
        y.ask(0, 0);
        y.wed(1, 2);
        y.lie(1, 1);
        y.years(8);
        y.wed(0, 2);
        y.ask(2, 2);
        y.years(9);
        y.ask(1, 3);
        y.lie(0, 3);
        y.years(10);
        due("twelve of thirteen", y.size(10), 12);
        // answers, weddings, the year
        int[][] rows = {{5, 3, 74}, {4, 3, 74}, {3, 3, 74}, {3, 3, 65}, {2, 3, 65}, {2, 2, 65}, {2, 2, 57}, {1, 2, 57},
            {1, 1, 57}, {0, 1, 57}, {0, 1, 50}, {0, 0, 50}};
        for (int[] row : rows) {
            Edges.done(y, "undo", y::undo);
            due("answers", y.size(5), row[0]);
            due("weddings", y.size(7), row[1]);
            due("the year", y.size(8), row[2]);
        }
        due("no kin", y.kin(0), 1);
        Edges.denied(y, "the first of them", y::undo, 6);
    }

    private static void image() {
        says(50, "An IMAGE: its number.");
        OneAnswer x = made(TRUE);
        for (int i = 0; i < 3; i++) {
            int image = i;
            Edges.taken(x, "image " + i, x::image, image);
            due("images", x.size(11), i + 1);
        }

        says(50, "NONE: 1 (no WELL);");
        Edges.needsWell("image", (y, i) -> y.image());

        says(50, "3.");
        Edges.refused(x, "the fourth", x::image, 3);
        x.back(0);
        Edges.refused(x, "gone back, too", x::image, 3);
        Check.load(x, TRUE);
        Edges.taken(x, "of another well", x::image, 0);
    }

    private static void back() {
        says(51, "All is as by an IMAGE");
        OneAnswer x = made(TRUE + ";told h qa yes;weds h i");
        x.image();
        x.lie(1, 0);
        x.wed(1, 2);
        x.years(40);
        x.image();
        x.undo();
        x.undo();
        x.ask(2, 1);
        x.years(1);
        x.image();
        // answers, weddings, the year, kin of the third, liars
        int[][] images = {{1, 1, 0, 4, 0}, {2, 2, 40, 7, 1}, {3, 1, 1, 4, 1}};
        for (int image : new int[] {1, 0, 2, 2, 0, 1}) {
            int i = image;
            Edges.done(x, "back to " + image, () -> x.back(i));
            due("answers", x.size(5), images[image][0]);
            due("weddings", x.size(7), images[image][1]);
            due("the year", x.size(8), images[image][2]);
            due("kin", x.kin(2), images[image][3]);
            due("liars", x.liars(), images[image][4]);
            x.ask(0, 0);
            x.years(5);
        }
        Edges.done(x, "back", () -> x.back(2));
        due("the third answer", x.told(2, 0) * 100 + x.told(2, 1) * 10 + x.told(2, 2), 210);
        due("nothing to undo", x.size(10), 0);
        Edges.denied(x, "undo", x::undo, 6);
        x.years(2);
        Edges.done(x, "what came behind can be undone", x::undo);
        due("the year", x.size(8), 1);
        OneAnswer y = made(TRUE);
        y.ask(2, 1);
        y.wed(0, 2);
        y.image();
        y.undo();
        y.undo();
        y.lie(1, 0);
        y.wed(0, 1);
        Edges.done(y, "back", () -> y.back(0));
        due("the first answer", y.told(0, 0) * 100 + y.told(0, 1) * 10 + y.told(0, 2), 210);
        due("the first house's kin", y.kin(0), 5);
        due("the second's", y.kin(1), 2);

        says(51, "(all IMAGES stay):");
        due("three", x.size(11), 3);
        Edges.done(x, "the last", () -> x.back(2));
        Edges.done(x, "the first", () -> x.back(0));
        Edges.done(x, "the last again", () -> x.back(2));
        due("three", x.size(11), 3);
        x.years(3);
        Edges.done(x, "undo", x::undo);
        due("undoing leaves them", x.size(11), 3);

        says(51, "true;");
        Edges.done(x, "the second", () -> x.back(1));

        says(51, "false: 1.");
        for (int image : new int[] {Integer.MIN_VALUE, -1, 3, 4, Integer.MAX_VALUE}) {
            Edges.denied(x, "image " + image, () -> x.back(image), 1);
        }
        OneAnswer one = made(TRUE);
        Edges.denied(one, "none", () -> one.back(0), 1);
        one.image();
        one.years(1);
        Edges.denied(one, "none yet", () -> one.back(1), 1);
        due("acts stay", one.size(10), 1);
        OneAnswer none = new OneAnswer();
        Edges.denied(none, "without a well", () -> none.back(0), 1);
    }

    private static boolean throwsAt(OneAnswer x, int i) {
        int before = x.trouble();
        try {
            x.led(i);
            return false;
        } catch (NoSuchElementException e) {
            due("trouble stays", x.trouble(), before);
            return true;
        }
    }

    private static void led() {
        says(52, "The i-th answer, as told, that is WASTED.");
        OneAnswer x = made(TRUE + ";told h qa yes;told i qd yes;told j qb no;told h qc no;told h qa yes");
        due("the first", x.led(0), 1);
        due("the second", x.led(1), 3);
        due("the third", x.led(2), 4);
        x.ask(2, 1);
        due("by an act", x.led(3), 5);
        OneAnswer all = made(TRUE + ";law a" + Texts.times(12, ";told h qa yes"));
        for (int i = 0; i < 8; i++) {
            all.ask(1, 0);
        }
        due("the first of twenty", all.led(0), 0);
        due("the last of twenty", all.led(19), 19);
        due("nothing is left to take", made(TORN).led(0), 2);

        says(52, "NoSuchElementException if there is none such.");
        for (int i : new int[] {Integer.MIN_VALUE, -1, 4, 5, Integer.MAX_VALUE}) {
            Check.due("led " + i, throwsAt(x, i), true);
        }
        Check.due("led 20", throwsAt(all, 20), true);
        Check.due("no answers", throwsAt(made(TRUE), 0), true);
        Check.due("none wasted", throwsAt(made(TRUE + ";told h qa yes"), 0), true);
        Check.due("no well", throwsAt(new OneAnswer(), 0), true);
    }

    private static void size() {
        says(53, "0 FACTS, 1 laws, 2 HOUSES, 3 twins told, 4 questions, 5 answers, 6 STONES, 7 weddings, "
            + "8 the year NOW, 9 1 if truth is told, 10 ACTS that can be undone, 11 IMAGES, 12 bytes of THE TAPE.");
        OneAnswer x = made(Texts.full());
        x.ask(0, 0);
        x.lie(0, 0);
        x.wed(4, 5);
        x.years(90);
        x.image();
        x.image();
        x.feed(0, 0, 0, 0, 0);
        int[] sizes = {6, 6, 6, 6, 8, 14, 4, 9, 95, 1, 4, 2, 20};
        for (int what = 0; what < sizes.length; what++) {
            due("size " + what, x.size(what), sizes[what]);
        }
        due("truth none is told", made(BARE + ";truth none").size(9), 1);

        says(53, "NONE for others;");
        for (int what : new int[] {Integer.MIN_VALUE, -1, 13, 14, 100, Integer.MAX_VALUE}) {
            due("size " + what, x.size(what), -1);
            due("size of nothing " + what, new OneAnswer().size(what), -1);
        }

        says(53, "0 for what there isn't.");
        int[] bare = {1, 0, 1, 0, 0, 0, 0, 0, 0, 0, 0, 0, 0};
        for (int what = 0; what <= 12; what++) {
            due("no well " + what, new OneAnswer().size(what), 0);
            due("the least well " + what, made(BARE).size(what), bare[what]);
        }
    }

    private static void trouble() {
        says(54, "TROUBLE.");
        OneAnswer x = new OneAnswer();
        due("of a new object", x.trouble(), 0);
        x.worlds();
        due("1", x.trouble(), 1);
        x.well(1);
        due("2", x.trouble(), 2);
        x.well(0);
        due("4", x.trouble(), 4);
        x.undo();
        due("6", x.trouble(), 6);
        due("it stays", x.trouble(), 6);
        Check.load(x, BARE.replace("now 0", "now 999"));
        due("0", x.trouble(), 0);
        x.years(1);
        due("3", x.trouble(), 3);
        Check.load(x, TWO + ";weds h i");
        x.wed(0, 1);
        due("5", x.trouble(), 5);
        x.sets();
        due("0", x.trouble(), 0);
    }
}
