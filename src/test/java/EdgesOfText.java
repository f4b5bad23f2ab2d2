/** Term I, sentence by sentence: the bounds of a text, of its tokens, lines, formulas and names, and its faults. */
final class EdgesOfText {
    private static final String F = Texts.FACTS;
    private static final String H = Texts.HOUSES;
    private static final String Q = Texts.QUESTIONS;
    private static final String HOUSE = Texts.HOUSE;
    private static final String[] KEPT = {"well", "fact", "law", "truth", "none", "house", "twin", "ends", "question",
        "told", "stone", "weds", "not", "and", "or"};
    private static final String[] FREE = {"now", "odds", "first", "each", "twins", "yes", "no"};

    private EdgesOfText() {
    }

    static void run() {
        tape();
        blanks();
        words();
        wholes();
        signs();
        lines();
        linesOfTheLand();
        linesOfHouses();
        linesOfAnswers();
        formulas();
        boundsOfFormulas();
        names();
        theFirstFault();
        form();
        notTold();
        again();
        outOfBounds();
        many();
        lacks();
        cannotBe();
    }

    private static void says(String words) {
        Document.term("I", words);
    }

    private static void fault(int number, String marked) {
        Texts.fault(number, marked);
    }

    private static OneAnswer sound(String text) {
        return Texts.sound(text);
    }

    private static String times(int n, String text) {
        return Texts.times(n, text);
    }

    private static void due(String what, long got, long want) {
        Check.due(what, got, want);
    }

    private static void tape() {
        says("THE TEXT of a WELL (THE TAPE has 900 bytes;");
        String whole = F + "house h first 0 each 1 twins ";
        String filled = whole + times(899 - whole.length(), " ");
        due("a text of 900 bytes", filled.length(), 899);
        due("its last byte is read", sound(filled + "9").size(2), 1);
        fault(1, filled + "^#");
        fault(1, filled + " ^");
        fault(1, "^" + times(900, ";"));
        fault(1, "^" + times(900, "9"));
        OneAnswer x = new OneAnswer();
        for (int i = 0; i < 44; i++) {
            x.feed(0, 0, 0, 0, 0);
        }
        due("the last twenty", x.feed(0, 0, 0, 0, 0), 900);
        due("no byte more", x.feed(0, 0, 0, 0, 0), -1);
        due("900 stay", x.size(12), 900);
    }

    private static void blanks() {
        says("blanks, 32, part TOKENS and mean nothing else;");
        due("many blanks", sound("   well   now   5  ;  fact  a   odds 5 ;  " + HOUSE + "   ").size(0), 1);
        due("no blanks", sound("well now5;fact a odds5;law(a)or(not(a));house h first0each1twins0;twin h0;truth a")
            .size(3), 1);
        fault(1, "^we ll now 5");
        fault(1, "well now 5 ^5");
        fault(1, "well now 5;fact a ^a odds 5");
        fault(1, "well now 5;fact a odds 5 ^house");
        for (int other : new int[] {0, 9, 10, 11, 12, 13, 31, 33, 95, 127, 133, 160, 255}) {
            fault(1, "well^" + (char) other + "now 5");
            fault(1, F + HOUSE + "^" + (char) other);
        }
    }

    private static void words() {
        says("TOKENS: WORDS of 1 to 8 small letters that stand together,");
        due("one letter", sound("well now 5;fact z odds 5;" + HOUSE.replace('z', 'a')).size(0), 1);
        due("eight, unlike in the last",
            sound("well now 5;fact abcdefgh odds 5;fact abcdefgi odds 5;" + HOUSE).size(0), 2);
        due("one is no part of another", sound("well now 5;fact a odds 5;fact aa odds 5;" + HOUSE).size(0), 2);
        due("unlike in the first", sound("well now 5;fact abcdefgh odds 5;fact bbcdefgh odds 5;" + HOUSE).size(0), 2);
        fault(3, "well now 5;fact abcdefgh odds 5;fact ^abcdefgh odds 5");
        fault(1, "well now 5;fact ^abcdefghi odds 5");
        fault(1, "well now 5;fact ^" + times(26, "a"));
        fault(1, "well now 5;^questions q");
        fault(1, "^welll now 5");
        fault(1, "^wel now 5");
        fault(1, "^wellnow 5");
        for (char other : new char[] {'`', '{', '@', '[', 'A', 'Z', '_', '-', (char) 228}) {
            fault(1, "well now 5;fact ^" + other + " odds 5");
            fault(1, "well now 5;fact a^" + other + "b odds 5");
        }
        fault(1, "well now 5;fact a^1b odds 5");
    }

    private static void wholes() {
        says("WHOLES of 1 to 3 digits that do,");
        due("one digit", sound("well now 9;fact a odds 5;" + HOUSE).size(8), 9);
        due("two", sound("well now 10;fact a odds 5;" + HOUSE).size(8), 10);
        due("three", sound("well now 987;fact a odds 5;" + HOUSE).size(8), 987);
        due("three of which two tell nothing", sound("well now 007;fact a odds 005;" + HOUSE).size(8), 7);
        fault(1, "well now ^0007");
        fault(1, "well now ^1000");
        fault(1, "well now ^" + times(20, "0"));
        fault(1, F + "house h first 0 each 1 twins ^0099");
        fault(1, "well now ^/");
        fault(1, "well now ^:");
        fault(1, "well now 1^:");
        fault(1, "well now ^+1");
        fault(1, "well now ^-1");
    }

    private static void signs() {
        says("single ones of ; , ( )");
        due("signs side by side", sound(F + "law((a)or((b)));truth a,b;" + HOUSE).worlds(), 3);
        for (int sign = 0; sign < 256; sign++) {
            String text = "well now 5;fact a odds 5 ";
            if (sign == ';') {
                sound(text + ";" + HOUSE);
            } else if (sign == ' ') {
                fault(1, text + " ^" + HOUSE);
            } else if (sign != '^') {
                fault(1, text + "^" + (char) sign + " " + HOUSE);
            }
        }
        fault(1, "well now 5;^,");
        fault(1, "well now 5;^(");
        fault(1, "well now 5;^)");
    }

    private static void lines() {
        says("LINE {; LINE}.");
        fault(6, "well now 5^");
        due("three lines", sound("well now 5;fact a odds 5;" + HOUSE).size(2), 1);
        fault(1, "^");
        fault(1, "^;well now 5");
        fault(1, "well now 5;^");
        fault(1, "well now 5;^;fact a odds 5");
        fault(1, "well now 5;fact a odds 5;" + HOUSE + ";^");
        fault(1, "well now 5 ^fact a odds 5");
        fault(1, "well now 5^,fact a odds 5");

        says("LINE, one of:");
        for (String word : KEPT) {
            boolean begins = !"none not and or".contains(word);
            fault(word.equals("well") ? 3 : 1, Q + (begins && !word.equals("well") ? word + "^" : "^" + word));
        }
        for (String word : FREE) {
            fault(1, Q + "^" + word);
        }
        fault(1, Q + "^a");
        fault(1, Q + "^5");

        says("well now WHOLE (a year, 0 .. 999),");
        due("the first year", sound("well now 0;fact a odds 5;" + HOUSE).size(8), 0);
        due("the last year", sound("well now 999;fact a odds 5;" + HOUSE).size(8), 999);
        fault(1, "well now ^1000;fact a odds 5;" + HOUSE);
        fault(1, "well ^0");
        fault(1, "well now ^now");
        fault(1, "^now 0");

        says("ahead of all others");
        for (String word : KEPT) {
            if (!word.equals("well")) {
                boolean begins = !"none not and or".contains(word);
                fault(begins ? 6 : 1, "^" + word + ";well now 5");
            }
        }
        fault(6, "^fact a odds 5;" + HOUSE);
    }

    private static void linesOfTheLand() {
        says("fact NAME odds WHOLE (1 .. 9 tenths; up to 6),");
        OneAnswer x = sound("well now 5;fact a odds 1;" + HOUSE);
        due("one tenth", x.odds(1), 1);
        due("nine left", x.odds(0), 9);
        x = sound("well now 5;fact a odds 9;" + HOUSE);
        due("nine tenths", x.odds(1), 9);
        due("one left", x.odds(0), 1);
        fault(4, "well now 5;fact a odds ^0;" + HOUSE);
        fault(4, "well now 5;fact a odds ^10;" + HOUSE);
        String six = "well now 5;" + Texts.each("abcdef", "fact ", " odds 5");
        due("six", sound(six + HOUSE).size(0), 6);
        fault(5, six + "^fact g odds 5;" + HOUSE);

        says("or law FORMULA (up to 6),");
        due("no law", sound(F + HOUSE).size(1), 0);
        due("six", sound(F + times(6, "law a;") + HOUSE).size(1), 6);
        fault(5, F + times(6, "law a;") + "^law a;" + HOUSE);

        says("or truth NAME {, NAME} (of FACTS, each once),");
        due("one", sound(six + "truth f;question q f;" + HOUSE).ask(0, 0), 1);
        due("all six",
            sound(six + "truth f,e,d,c,b,a;question q a and b and c and d and e and f;" + HOUSE).ask(0, 0), 1);
        fault(3, six + "truth f,e,d,c,b,a,^f");
        fault(1, six + "truth ^,a");
        fault(1, six + "truth a,^,b");
        fault(1, six + "truth a,^;" + HOUSE);
        fault(2, six + HOUSE + ";truth a,^z");

        says("or truth none (once)");
        due("truth of no fact", sound(F + "truth none;" + HOUSE).size(9), 1);
        due("no truth", sound(F + HOUSE).size(9), 0);
        fault(1, F + "truth none^,a");
        fault(1, F + "truth a,^none");
        fault(3, F + "truth none;^truth none");
        fault(3, F + "truth a;^truth none");
    }

    private static void linesOfHouses() {
        says("house NAME first WHOLE each WHOLE twins WHOLE (the year of its first ASKING, 0 .. 999; "
            + "years, 1 .. 99; 0 .. 99 in a hundred; up to 6),");
        OneAnswer x = sound(F + "house h first 0 each 1 twins 0");
        due("the first asking", x.asking(0, 0), 0);
        due("a year later", x.asking(0, 1), 1);
        due("never twins", x.births(0, 1, 99), 99);
        x = sound(F + "house h first 999 each 99 twins 99");
        due("the first asking", x.asking(0, 0), 999);
        due("99 years later", x.asking(0, 1), 999 + 99);
        due("twins nearly always", x.births(0, 0, 2), 4);
        fault(1, F + "house h first ^1000 each 1 twins 0");
        fault(4, F + "house h first 0 each ^0 twins 0");
        fault(4, F + "house h first 0 each ^100 twins 0");
        fault(4, F + "house h first 0 each 1 twins ^100");
        String six = F + Texts.each("hijklm", "house ", " first 0 each 1 twins 0");
        due("six", sound(six + "law a").size(2), 6);
        fault(5, six + "^house n first 0 each 1 twins 0");

        says("or twin HOUSE WHOLE (which generation, 0 .. 30; each once; up to 6),");
        x = sound(H + "twin h 0;twin h 30");
        due("twins at once", x.asking(0, 1), 0);
        due("the next generation", x.asking(0, 2), 9);
        due("the thirtieth", x.asking(0, 31), 270);
        due("of twins", x.asking(0, 32), 270);
        due("behind it", x.asking(0, 33), 279);
        fault(4, H + "twin h ^31");
        fault(3, H + "twin h 0;twin h ^0");
        fault(3, H + "twin h 30;twin h ^30");
        due("of another house", sound(H + "twin h 0;twin i 0").size(3), 2);
        due("six", sound(H + "twin h 0;twin h 1;twin h 2;twin h 3;twin h 4;twin h 5").size(3), 6);
        fault(5, H + "twin h 0;twin h 1;twin h 2;twin h 3;twin h 4;twin h 5;^twin i 0");

        says("or ends HOUSE WHOLE (a year, 0 .. 999; once for each)");
        due("at the beginning", sound(H + "ends h 0").asking(0, 0), -2);
        due("in the last year", sound(H + "ends h 999").asking(0, 99), 891);
        fault(1, H + "ends h ^1000");
        fault(3, H + "ends h 1;ends ^h 2");
        String ends = Texts.each("hijklm", "ends ", " 1");
        due("each", sound(six + ends + "law a").turnsTo(999), 6);
        fault(3, six + ends + "ends ^m 1");
    }

    private static void linesOfAnswers() {
        says("question NAME FORMULA (up to 8),");
        due("no question", sound(F + HOUSE).size(4), 0);
        String eight = H + Texts.each("pqrstuvw", "question ", " a");
        due("eight", sound(eight + "law a").size(4), 8);
        fault(5, eight + "^question x a");

        says("or told HOUSE QUESTION ANSWER (yes, or no; up to 12),");
        due("yes", sound(Q + "told h q yes").told(0, 2), 1);
        due("no", sound(Q + "told h q no").told(0, 2), 0);
        fault(1, Q + "told h q ^none");
        fault(1, Q + "told h q ^y");
        fault(1, Q + "told h q^");
        due("twelve", sound(Q + times(12, "told h q yes;") + "law b").size(5), 12);
        fault(5, Q + times(12, "told h q yes;") + "^told h q yes");

        says("or stone ANSWER (up to 4),");
        due("yes", sound(Q + "stone yes").surely(0), 0);
        due("yes of what must be", sound(Q + "law b;stone yes").surely(0), 3);
        due("no of what can't be", sound(Q + "law not b;stone no").surely(0), 2);
        fault(1, Q + "stone ^5");
        due("four", sound(Q + times(4, "stone no;") + "law b").size(6), 4);
        fault(5, Q + times(4, "stone no;") + "^stone no");

        says("or weds HOUSE HOUSE (unlike; once in whatever order; up to 8)");
        String six = F + Texts.each("hijklm", "house ", " first 0 each 1 twins 0");
        fault(3, six + "weds h ^h");
        fault(3, six + "weds m ^m");
        fault(3, six + "weds h m;weds h ^m");
        fault(3, six + "weds h m;weds m ^h");
        String weddings = Texts.each("ijklm", "weds h ", "") + Texts.each("jkl", "weds i ", "");
        due("eight", sound(six + weddings + "law a").size(7), 8);
        fault(5, six + weddings + "^weds i m");
    }

    private static void formulas() {
        says("FORMULA: TERM {or TERM}; TERM: FACTOR {and FACTOR}; FACTOR: FACT, or not FACTOR, or ( FORMULA ).");
        OneAnswer x = sound("well now 5;fact a odds 5;fact b odds 5;fact c odds 5;" + HOUSE
            + ";question p a or b and c;question q a and b or c;question r not a and b;question s not (a and b or c);"
            + "question t not not a;question u (a or b) and c;question v a and not (b or not c);"
            + "question w not a or not b and c or (a and (b))");
        for (int world = 0; world < 8; world++) {
            boolean a = world % 2 == 1;
            boolean b = world / 2 % 2 == 1;
            boolean c = world / 4 == 1;
            boolean[] so = {a || b && c, a && b || c, !a && b, !(a && b || c), a, (a || b) && c, a && !(b || !c),
                !a || !b && c || a && b};
            for (int question = 0; question < 8; question++) {
                due("question " + question + " in " + world, x.isSo(question, world), so[question] ? 1 : 0);
            }
        }
        fault(1, F + "law^");
        fault(1, F + "law ^or b");
        fault(1, F + "law a or^;");
        fault(1, F + "law ^and b");
        fault(1, F + "law a and ^or b");
        fault(1, F + "law not^");
        fault(1, F + "law a ^not b");
        fault(1, F + "law (^)");
        fault(1, F + "law (a^;");
        fault(1, F + "law (a or^)");
        fault(1, F + "law a^)");
        fault(1, F + "law (a)^(b)");
    }

    private static void boundsOfFormulas() {
        says("It has 12 FACTS, at most,");
        due("one", sound(F + "law a;" + HOUSE).worlds(), 2);
        due("twelve", sound(F + "law " + times(11, "a or ") + "b;" + HOUSE).worlds(), 3);
        due("each formula its own twelve", sound(F + times(2, "law " + times(11, "a or ") + "b;") + HOUSE).worlds(), 3);
        due("nots don't count", sound(F + "law " + times(11, "not not a or ") + "not b;" + HOUSE).worlds(), 3);
        fault(5, F + "law " + times(12, "a or ") + "^b;" + HOUSE);
        fault(5, H + "question q " + times(11, "a and ") + "a or ^b");
        fault(5, F + "law (" + times(6, "a or ") + "a) and (" + times(5, "b or not ") + "^b)");

        says("and no more than 8 brackets are open at once.");
        due("eight", sound(F + "law " + times(8, "(") + "a" + times(8, ")") + ";" + HOUSE).worlds(), 2);
        due("eight, closed, eight more", sound(F + "law " + times(8, "(") + "a" + times(8, ")") + " or "
            + times(8, "(") + "b" + times(8, ")") + ";" + HOUSE).worlds(), 3);
        due("twelve, one by one", sound(F + "law " + times(11, "(a) and ") + "(b);" + HOUSE).worlds(), 1);
        due("one closed and opened again", sound(F + "law " + times(8, "(") + "a) and (b" + times(8, ")") + ";"
            + HOUSE).worlds(), 1);
        fault(5, F + "law " + times(8, "(") + "^(a");
        fault(5, F + "law " + times(8, "not (") + "not ^(a");
        fault(5, F + "law " + times(8, "(") + "a) and (^(b");
        fault(5, H + "question q " + times(8, "(") + "a or ^(b");
    }

    private static void names() {
        says("NAMES are WORDS but well, fact, law, truth, none, house, twin, ends, question, told, stone, weds, "
            + "not, and, or;");
        for (String word : KEPT) {
            fault(1, F + "fact ^" + word + " odds 5");
            fault(1, F + "house ^" + word + " first 0 each 1 twins 0");
            fault(1, H + "question ^" + word + " a");
            fault(1, Q + "told ^" + word);
            fault(1, Q + "told h ^" + word);
            fault(1, Q + "weds h ^" + word);
            fault(1, Q + "twin ^" + word);
            fault(1, Q + "ends ^" + word);
            fault(1, Q + "truth a,^" + word);
            sound("well now 5;fact x" + word.substring(1) + " odds 5;fact " + word.substring(0, word.length() - 1)
                + "x odds 5;" + HOUSE);
        }
        for (String word : FREE) {
            sound(H + "fact " + word + " odds 5;law not " + word + ";truth none");
            sound(F + "house " + word + " first 0 each 1 twins 0;twin " + word + " 0;ends " + word + " 0");
            sound(H + "question " + word + " a;told h " + word + " no");
        }

        says("each told once, ahead of its use.");
        fault(2, "well now 5;law ^a;fact a odds 5;" + HOUSE);
        fault(2, "well now 5;truth ^a;fact a odds 5;" + HOUSE);
        fault(2, F + "twin ^h 0;house h first 0 each 1 twins 0");
        fault(2, F + "ends ^h 0;house h first 0 each 1 twins 0");
        fault(2, H + "told h ^q yes;question q a");
        fault(2, H + "weds h ^j;house j first 0 each 1 twins 0");
        fault(2, H + "question q ^q");
        fault(3, H + "question ^h a");
    }

    private static void theFirstFault() {
        says("FAULTS, the first that is met from the left,");
        String[] faulty = {"1fact ^5", "1^#", "1law a and^;", "2law ^x", "2told ^a q yes", "3fact ^a odds 5",
            "3truth a,^a", "3^well now 5", "3twin h 3;twin h ^3", "3ends h 3;ends ^h 3", "3weds i ^i",
            "4fact x odds ^0", "4twin i ^31", "5law " + times(12, "a or ") + "^a", "5law " + times(8, "(") + "^(",
            "7^law a and not a", "7truth none;^law a", "7law b;^truth a"};
        for (String one : faulty) {
            for (String other : faulty) {
                fault(one.charAt(0) - '0', Q + one.substring(1) + ";" + other.substring(1).replace("^", ""));
            }
            fault(one.charAt(0) - '0', Q + one.substring(1));
        }
        fault(6, "^fact a odds 0;#");
        fault(4, "well now 5;fact a odds ^0");
        fault(4, H + "twin h 3;twin i ^99;twin h 3");

        says("of one place the least number:");
        fault(1, "well now 5;^");
        fault(1, "^none");
        fault(1, "^");
        fault(1, F + "law ^well");
        fault(2, F + "law " + times(12, "a or ") + "^x");
        fault(1, F + "law " + times(12, "a or ") + "^law");
        fault(2, H + "law " + times(12, "a or ") + "^h");
        fault(3, F + "law a;truth a;^truth b");
        fault(5, F + times(6, "law a;") + "^law not a");
        fault(3, Texts.full() + ";^truth b");
    }

    private static void form() {
        says("1 FORM: the first byte that begins no TOKEN,");
        fault(1, "^#well now 5");
        fault(1, "well now 5^#");
        fault(1, "well now 5;fact a^#odds 5");
        fault(1, "well now 5;fact a odds 5;^" + (char) 128);
        fault(1, "well now 5;fact a odds 5;^" + (char) 0);
        fault(1, "well now 5;fact ^ninelette");
        fault(1, "well now ^5555;");
        fault(1, F + HOUSE + "^.");

        says("or TOKEN with which no WELL goes on");
        fault(1, "well ^well");
        fault(1, "well now ^;");
        fault(1, F + "truth ^;");
        fault(1, F + "truth a ^a");
        fault(1, F + "house h ^0");
        fault(1, F + "house h first 0 ^0");
        fault(1, F + "house h first 0 each 1 ^each");
        fault(1, H + "twin h ^h");
        fault(1, H + "twin h 0 ^0");
        fault(1, H + "ends h 0^,");
        fault(1, H + "ends h ^yes");
        fault(1, H + "question q a ^a");
        fault(1, Q + "told ^5");
        fault(1, Q + "told h^;");
        fault(1, Q + "stone yes ^yes");
        fault(1, Q + "weds h i ^j");

        says("(the end: its place).");
        String text = Q + "law not (a);truth b;twin h 3;ends i 4;told h q yes;stone no;weds h i;fact x odds 1";
        String rest = text.substring(Q.length());
        for (int n = Q.length(); n < text.length(); n++) {
            boolean whole = rest.charAt(n - Q.length()) == ';';
            boolean amid = n > Q.length() && Character.isLetter(text.charAt(n))
                && Character.isLetter(text.charAt(n - 1));
            if (!whole && !amid) {
                fault(1, text.substring(0, n) + "^");
                fault(1, text.substring(0, n) + "   ^");
            }
        }
        fault(1, "well^");
        fault(1, "well now^");
        fault(1, "   ^");
    }

    private static void notTold() {
        says("2 a NAME that isn't told,");
        fault(2, Q + "law ^x");
        fault(2, Q + "truth ^x");
        fault(2, Q + "truth a,^x");
        fault(2, Q + "twin ^x 0");
        fault(2, Q + "ends ^x 0");
        fault(2, Q + "question s not (a or ^x)");
        fault(2, Q + "told ^x q yes");
        fault(2, Q + "told h ^x yes");
        fault(2, Q + "weds ^x h");
        fault(2, Q + "weds h ^x");

        says("or is of another sort than must stand there; at it.");
        for (String other : new String[] {"h", "q"}) {
            fault(2, Q + "law ^" + other);
            fault(2, Q + "truth ^" + other);
            fault(2, Q + "question s ^" + other);
        }
        for (String other : new String[] {"a", "q"}) {
            fault(2, Q + "twin ^" + other + " 0");
            fault(2, Q + "ends ^" + other + " 0");
            fault(2, Q + "told ^" + other + " q yes");
            fault(2, Q + "weds ^" + other + " h");
            fault(2, Q + "weds h ^" + other);
        }
        fault(2, Q + "told h ^a yes");
        fault(2, Q + "told h ^i yes");
    }

    private static void again() {
        says("3 a NAME told again; at it;");
        for (String name : new String[] {"a", "b", "h", "i", "q", "r"}) {
            fault(3, Q + "fact ^" + name + " odds 5");
            fault(3, Q + "house ^" + name + " first 0 each 1 twins 0");
            fault(3, Q + "question ^" + name + " a");
        }

        says("a FACT in truth again; at it;");
        fault(3, F + "truth a,^a");
        fault(3, F + "truth b,a,^b");
        fault(3, F + "truth a,b,^b,x");

        says("a generation told twice as twins; at its WHOLE;");
        fault(3, H + "twin h 7;twin h ^7");
        fault(3, H + "twin h 7;twin i 7;twin h 8;twin i ^007");

        says("a HOUSE that ends already; at it;");
        fault(3, H + "ends h 7;ends ^h 7");
        fault(3, H + "ends h 0;ends i 7;ends ^h");
        fault(3, H + "ends h 999;ends ^h 1000");

        says("a second HOUSE that is the first, or wed to it already; at it;");
        fault(3, H + "weds i ^i");
        fault(3, H + "weds h i;weds h ^i");
        fault(3, H + "weds h i;weds i ^h");
        due("kin that aren't wed may",
            sound(H + "house j first 0 each 1 twins 0;weds h i;weds i j;weds h j").size(7), 3);

        says("a second well, truth: at that WORD.");
        fault(3, "well now 5;^well");
        fault(3, Q + "^well now 5");
        fault(3, Q + "truth a;^truth");
        fault(3, Q + "truth none;stone no;^truth #");
    }

    private static void outOfBounds() {
        says("4 a WHOLE out of bounds; at it.");
        for (int whole : new int[] {0, 10, 11, 99, 100, 999}) {
            fault(4, "well now 5;fact a odds ^" + whole);
        }
        for (int whole : new int[] {0, 100, 101, 999}) {
            fault(4, F + "house h first 0 each ^" + whole);
        }
        for (int whole : new int[] {100, 101, 999}) {
            fault(4, F + "house h first 0 each 1 twins ^" + whole);
        }
        for (int whole : new int[] {31, 32, 63, 64, 99, 999}) {
            fault(4, H + "twin h ^" + whole);
        }
    }

    private static void many() {
        says("5 MANY: a LINE more of its sort than there is room for, at its first WORD;");
        String full = Texts.full();
        OneAnswer x = sound(full);
        int[] sizes = {6, 6, 6, 6, 8, 12, 4, 8, 5, 1};
        for (int what = 0; what < sizes.length; what++) {
            due("all that there is room for: " + what, x.size(what), sizes[what]);
        }
        for (String more : new String[] {"fact x odds 5", "law a", "house x first 0 each 1 twins 0", "twin h 0",
            "question x a", "told g m no", "stone yes", "weds h l"}) {
            fault(5, full + ";^" + more);
            fault(5, full + ";^" + more.substring(0, more.indexOf(' ')));
        }

        says("a thirteenth FACT of a FORMULA, a ninth bracket open: at it.");
        fault(5, F + "law " + times(12, "b and ") + "^b");
        fault(5, F + "law " + times(12, "b and ") + "not ^b and #");
        fault(5, F + "law " + times(8, "(") + "^(");
        fault(5, F + "law " + times(7, "(") + "(a) or (^(");
    }

    private static void lacks() {
        says("6 LACKS: any LINE ahead of the well; at its WORD;");
        for (String line : new String[] {"fact a odds 5", "law a", "truth none", HOUSE, "twin z 0", "ends z 0",
            "question q a", "told z q yes", "stone no", "weds z y"}) {
            fault(6, "^" + line + ";well now 5");
            fault(6, "   ^" + line);
            fault(6, "^" + line.substring(0, line.indexOf(' ')));
        }

        says("at the end: no FACT, no HOUSE.");
        fault(6, "well now 5^");
        fault(6, "well now 5   ^");
        fault(6, "well now 5;fact a odds 5^");
        fault(6, "well now 5;fact a odds 5;question q a;stone no  ^");
        fault(6, "well now 5;" + HOUSE + "^");
        fault(6, "well now 5;" + HOUSE + ";truth none;ends z 5^");
        sound("well now 5;" + HOUSE + ";fact a odds 5");
    }

    private static void cannotBe() {
        says("7 a law by which no WORLD is left,");
        fault(7, F + "^law a and not a;" + HOUSE);
        fault(7, F + "law a;^law not a;" + HOUSE);
        fault(7, F + "law a or b;law not a;^law not b;" + HOUSE);
        fault(7, F + "law a;fact c odds 5;law c;^law not (a and c)");
        String six = "well now 5;" + Texts.each("abcdef", "fact ", " odds 5");
        due("the first world alone", sound(six + "law not (a or b or c or d or e or f);" + HOUSE).canBe(0), 1);
        due("the last one alone", sound(six + "law a and b and c;law d and e and f;" + HOUSE).canBe(63), 1);
        fault(7, six + "law a and b and c;law d and e and f;^law not f");

        says("or by which truth (told already) can't be: at its WORD law;");
        fault(7, F + "truth a;^law b;" + HOUSE);
        fault(7, F + "truth none;law not a;^law a or b;" + HOUSE);
        fault(7, F + "truth a,b;fact c odds 5;^law c;" + HOUSE);
        due("truth can be", sound(F + "truth a;law a or b;law not b;" + HOUSE).worlds(), 1);

        says("a truth that laws told ahead don't let be: at its WORD.");
        fault(7, F + "law b;^truth a;" + HOUSE);
        fault(7, F + "law a or b;^truth none;" + HOUSE);
        fault(7, F + "law not (a and b);stone no;^truth b , a;" + HOUSE);
        due("truth can be", sound(F + "law a or b;law not b;truth a;" + HOUSE).size(9), 1);
    }
}
