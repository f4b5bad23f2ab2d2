/** Texts with a mark ahead of the place of their first fault, and its number; and texts without one. */
public final class FaultsTest {
    private static final String F = Texts.FACTS;
    private static final String H = Texts.HOUSES;
    private static final String Q = Texts.QUESTIONS;

    public static void main(String[] args) {
        form();
        formOfLines();
        formOfFormulas();
        notTold();
        again();
        outOfBounds();
        many();
        manyInFormulas();
        lacks();
        cannotBe();
        theFirstFault();
        sound();
        Check.end();
    }

    private static void fault(int number, String marked) {
        Texts.fault(number, marked);
    }

    private static OneAnswer sound(String text) {
        return Texts.sound(text);
    }

    private static String times(int n, String text) {
        return Texts.times(n, text);
    }

    private static void form() {
        fault(1, "^");
        fault(1, "     ^");
        fault(1, "^;");
        fault(1, "^" + times(900, ";"));
        fault(1, F + "law " + times(80, "not ") + "^" + times(400, ")"));
        fault(1, "^hello");
        fault(1, "^Well now 5");
        fault(1, "^\twell now 5");
        fault(1, "well now 5;^\nfact a odds 5");
        fault(1, "well now 5;fact ^A odds 5");
        fault(1, "well now 5;fact a^.odds 5");
        fault(1, "well now 5;fact a" + "^" + (char) 225 + " odds 5");
        fault(1, "well now 5;fact a" + "^" + (char) 0 + " odds 5");
        fault(1, "well now 5;fact a" + "^" + (char) 255);
        fault(1, "well now 5;fact ^abcdefghi odds 5");
        fault(1, "well now ^0005");
        fault(1, "well now^");
        fault(1, "well now   ^");
        fault(1, "well ^5");
        fault(1, "well ^then 5");
        fault(1, "well now 5;^");
        fault(1, "well now 5; ^; fact a odds 5");
        fault(1, "well now 5^, fact a odds 5");
        fault(1, "well now 5;^none");
        fault(1, "well now 5;^not a");
        fault(1, "well now 5;^5");
        fault(1, "well now 5 ^5");
        fault(1, "well now ^-5");
    }

    private static void formOfLines() {
        fault(1, "well now 5;fact ^fact odds 5");
        fault(1, "well now 5;fact ^none odds 5");
        fault(1, "well now 5;fact ^5");
        fault(1, "well now 5;fact a ^5");
        fault(1, "well now 5;fact a odds ^b");
        fault(1, "well now 5;fact a odds 5 ^6");
        fault(1, F + "truth ^");
        fault(1, F + "truth ^;");
        fault(1, F + "truth a ^b");
        fault(1, F + "truth a,^");
        fault(1, F + "truth a,^none");
        fault(1, F + "truth none^, a");
        fault(1, F + "truth ^and");
        fault(1, F + "house ^house");
        fault(1, F + "house h ^last");
        fault(1, F + "house h first ^each");
        fault(1, F + "house h first 0 ^twins");
        fault(1, F + "house h first 0 each 5^");
        fault(1, F + "house h first 0 each 5 twins^;");
        fault(1, H + "twin ^5");
        fault(1, H + "twin h ^i");
        fault(1, H + "twin h 5 ^6");
        fault(1, H + "ends ^ends");
        fault(1, H + "ends h^");
        fault(1, H + "question ^told a");
        fault(1, H + "question q^");
        fault(1, Q + "told ^told");
        fault(1, Q + "told h ^5 q");
        fault(1, Q + "told h q ^maybe");
        fault(1, Q + "told h q ^1");
        fault(1, Q + "told h q yes ^no");
        fault(1, Q + "stone ^h");
        fault(1, Q + "stone^");
        fault(1, Q + "weds h ^weds");
        fault(1, Q + "weds h^, i");
    }

    private static void formOfFormulas() {
        fault(1, F + "law^");
        fault(1, F + "law ^or a");
        fault(1, F + "law ^and a");
        fault(1, F + "law a or ^or b");
        fault(1, F + "law a and^");
        fault(1, F + "law a and not^;");
        fault(1, F + "law a ^not b");
        fault(1, F + "law a ^b");
        fault(1, F + "law a ^(b)");
        fault(1, F + "law ^)");
        fault(1, F + "law (^)");
        fault(1, F + "law (a^");
        fault(1, F + "law (a^;");
        fault(1, F + "law (a ^b)");
        fault(1, F + "law (a or ^)");
        fault(1, F + "law (a)^)");
        fault(1, F + "law ((a) or b^");
        fault(1, F + "law ^5");
        fault(1, F + "law ^law");
        fault(1, F + "law ^none");
        fault(1, F + "law a^,b");
        fault(1, H + "question q a^)");
        fault(1, H + "question q a or not ^;");
    }

    private static void notTold() {
        fault(2, F + "law ^c");
        fault(2, "well now 5;law ^a;fact a odds 5");
        fault(2, F + "truth ^c");
        fault(2, F + "truth a,^c");
        fault(2, H + "law ^h");
        fault(2, H + "truth ^h");
        fault(2, H + "twin ^a 5");
        fault(2, H + "twin ^j 5");
        fault(2, H + "ends ^a 5");
        fault(2, H + "question q ^q");
        fault(2, H + "question q a and (b or not ^x)");
        fault(2, Q + "told ^q q yes");
        fault(2, Q + "told ^x q yes");
        fault(2, Q + "told h ^h yes");
        fault(2, Q + "told h ^yes yes");
        fault(2, Q + "told h ^s yes");
        fault(2, Q + "weds ^q h");
        fault(2, Q + "weds h ^a");
        fault(2, Q + "law ^q");
    }

    private static void again() {
        fault(3, "well now 5;^well now 5");
        fault(3, F + "^well");
        fault(3, F + "truth a;^truth b");
        fault(3, F + "truth none;law a or not a;^truth none");
        fault(3, "well now 5;fact a odds 5;fact ^a odds 5");
        fault(3, F + "house ^a first 0 each 1 twins 0");
        fault(3, H + "fact ^h odds 5");
        fault(3, H + "question ^h a");
        fault(3, H + "question ^a a");
        fault(3, Q + "question ^q a");
        fault(3, Q + "house ^r first 0 each 1 twins 0");
        fault(3, F + "truth a,^a");
        fault(3, F + "truth b , a , ^b");
        fault(3, H + "twin h 5;twin h ^5");
        fault(3, H + "twin h 5;twin i 5;twin h 6;twin h ^005");
        fault(3, H + "ends h 5;ends ^h 6");
        fault(3, H + "ends h 5;ends i 5;ends ^h");
        fault(3, H + "weds h ^h");
        fault(3, H + "weds h i;weds h ^i");
        fault(3, H + "weds h i;weds i ^h");
    }

    private static void outOfBounds() {
        fault(4, "well now 5;fact a odds ^0");
        fault(4, "well now 5;fact a odds ^10");
        fault(4, "well now 5;fact a odds ^999");
        fault(4, F + "house h first 0 each ^0");
        fault(4, F + "house h first 0 each ^100");
        fault(4, F + "house h first 999 each 99 twins ^100");
        fault(4, H + "twin h ^31");
        fault(4, H + "twin h ^999");
    }

    private static void many() {
        String six = "";
        for (char c = 'a'; c <= 'f'; c++) {
            six += ";fact " + c + " odds 5";
        }
        fault(5, "well now 5" + six + ";^fact g odds 5");
        fault(5, "well now 5" + six + ";^fact");
        fault(5, F + times(6, "law a;") + "^law a");
        String houses = "";
        for (char c = 'p'; c <= 'u'; c++) {
            houses += "house " + c + " first 0 each 9 twins 0;";
        }
        fault(5, F + houses + "^house v");
        String twins = "";
        for (int g = 0; g < 6; g++) {
            twins += "twin " + (g < 3 ? "h " : "i ") + g + ";";
        }
        fault(5, H + twins + "^twin h 9");
        String questions = "";
        for (char c = 'p'; c <= 'w'; c++) {
            questions += "question " + c + " a;";
        }
        fault(5, H + questions + "^question x a");
        fault(5, Q + times(12, "told h q yes;") + "^told h q yes");
        fault(5, H + times(4, "stone no;") + "^stone no");
        fault(5, F + houses + "weds p q;weds p r;weds p s;weds p t;weds p u;weds q r;weds q s;weds q t;^weds q u");
        fault(3, F + houses + "ends p 1;ends q 1;ends r 1;ends s 1;ends t 1;ends u 1;ends ^u 2");
    }

    private static void manyInFormulas() {
        fault(5, F + "law " + times(12, "a or ") + "^a");
        fault(5, F + "law a and (" + times(11, "not b or ") + "^a)");
        fault(2, F + "law " + times(12, "a or ") + "^c");
        fault(1, F + "law " + times(12, "a or ") + "^law");
        fault(1, F + "law " + times(11, "a or ") + "a or^");
        fault(5, F + "law " + times(8, "(") + "^(a");
        fault(5, F + "law " + times(8, "(") + "a" + times(8, ")") + " or " + times(8, "not (") + "^(");
        fault(1, F + "law " + times(8, "(") + "a" + times(7, ")") + "^");
        fault(1, F + "law " + times(8, "(") + "a" + times(8, ")") + "^)");
        fault(5, H + "question q " + times(8, "(") + "^(");
    }

    private static void lacks() {
        fault(6, "^fact a odds 5;well now 5");
        fault(6, "  ^truth none");
        fault(6, "^weds");
        fault(6, "^told;");
        fault(6, "well now 5^");
        fault(6, "well now 5  ^");
        fault(6, F.substring(0, F.length() - 1) + "^");
        fault(6, "well now 5;house h first 0 each 1 twins 0^");
        fault(6, "well now 5;house h first 0 each 1 twins 0;truth none^");
    }

    private static void cannotBe() {
        fault(7, F + "^law a and not a");
        fault(7, F + "law a;law b;^law not a or not b;law c");
        fault(7, F + "truth a;^law b");
        fault(7, F + "law b;^truth a");
        fault(7, F + "law a or b;^truth none");
        fault(7, F + "truth none;^law a or b");
        fault(7, F + "truth a;fact c odds 5;^law c");
        fault(7, F + "law not a;^truth b,a;truth");
    }

    private static void theFirstFault() {
        fault(4, "well now 5;fact a odds ^0;fact a odds 0;#");
        fault(2, F + "law ^c and not a #");
        fault(1, F + "law a and not a or ^#");
        fault(3, F + "law b;truth a,^a");
        fault(5, F + times(6, "law a;") + "^law a and not a");
        fault(3, F + "law a;truth a;^truth b");
    }

    private static void sound() {
        OneAnswer x = sound("well now 999;fact yes odds 9;fact odds odds 1;law not not not yes;"
            + "house no first 999 each 99 twins 99;house now first 000 each 01 twins 0;twin no 30;twin now 0;"
            + "ends no 0;question first yes and odds or not yes and not odds;told no first no;stone yes;weds now no");
        Check.due("worlds", x.worlds(), 2);
        Check.due("and binds ahead of or", x.isSo(0, 0), 1);
        Check.due("and binds ahead of or", x.isSo(0, 3), 1);
        Check.due("and binds ahead of or", x.isSo(0, 1), 0);
        OneAnswer y = sound("   well now5;fact a odds5;fact b odds5 ; law(a)or(b);house h first0each1twins0;"
            + "question q not(a or b)and a;question r not(not(a and(not b)));question s a and(b or not a)or b;"
            + "truth a , b   ");
        int[] r = {0, 1, 0, 0};
        int[] s = {0, 0, 1, 1};
        for (int world = 0; world < 4; world++) {
            Check.due("q in " + world, y.isSo(0, world), 0);
            Check.due("r in " + world, y.isSo(1, world), r[world]);
            Check.due("s in " + world, y.isSo(2, world), s[world]);
        }
        sound(F + "law " + times(11, "a or ") + "a;house h first 0 each 1 twins 0");
        sound(F + "law " + times(8, "(") + "a" + times(8, ")") + " and "
            + times(8, "(not ") + "b" + times(8, ")") + ";house h first 0 each 1 twins 0");
        OneAnswer z = sound(F + "law " + times(200, "not ") + "a;house h first 0 each 1 twins 0");
        Check.due("an even number of nots", z.canBe(1), 1);
        z = sound("well now 5;house h first 0 each 1 twins 0;truth none;stone no;fact a odds 5");
        Check.due("truth none ahead of facts", z.size(9), 1);
        z = sound(F + "law a;truth a;fact c odds 5;law a or c;house h first 0 each 1 twins 0");
        Check.due("a fact behind a law", z.worlds(), 4);
        String full = F + "house h first 0 each 1 twins 0";
        sound(full + times(900 - full.length(), " "));
    }
}
