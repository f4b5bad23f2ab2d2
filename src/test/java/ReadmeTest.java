import java.io.IOException;
import java.nio.file.Files;
import java.nio.file.Path;
import java.util.regex.Matcher;
import java.util.regex.Pattern;

/** README.md's code, which must stand here line by line, and the answers that it tells behind it. */
public final class ReadmeTest {
    private static String readme;
    private static int told;

    public static void main(String[] args) throws IOException {
        readme = Files.readString(Path.of("README.md"));
        theSameLines(Files.readString(Path.of("src/test/java/ReadmeTest.java")));
        use();
        Check.end();
    }

    private static void theSameLines(String here) {
        Matcher block = Pattern.compile("(?s)```java\n(.*?)```").matcher(readme);
        int blocks = 0;
        while (block.find()) {
            blocks++;
            for (String line : block.group(1).split("\n")) {
                String code = line.replaceAll("//.*", "").strip();
                Check.due("README's line " + code + " is run", here.contains(code), true);
            }
        }
        Check.due("blocks of code", blocks, 2);
    }

    private static void use() {
        String text = "well now 10;fact sea odds 8;fact iron odds 3;law sea or iron;truth sea;"
            + "house ash first 0 each 20 twins 50;house birch first 5 each 10 twins 0;"
            + "question salt sea;question rust iron and sea;told ash salt yes";
        OneAnswer x = new OneAnswer();
        int houses = load(x, text);
        tells("houses", houses);
        int worlds = x.worlds();
        tells("worlds", worlds);
        int ash = x.known(0, 0);
        tells("ash", ash);
        int birch = x.known(1, 0);
        tells("birch", birch);
        boolean wed = x.wed(0, 1);
        tells("wed", wed);
        int then = x.known(1, 0);
        tells("then", then);
        int asked = x.ask(1, 1);
        tells("asked", asked);
        Check.due("ash knows it", x.known(0, 1), 0);
        boolean undone = x.undo();
        tells("undone", undone);
        int upper = (int) x.chance(1, false);
        tells("upper", upper);
        int lower = (int) x.chance(1, true);
        tells("lower", lower);
        int none = x.known(2, 0);
        tells("none", none);
        int why = x.trouble();
        tells("why", why);
        int faulty = load(x, "well now 5;fact a odds 0");
        tells("faulty", faulty);
        int trouble = x.trouble();
        tells("trouble", trouble);
        int fault = x.fault();
        tells("fault", fault);
        int place = x.where();
        tells("place", place);
        int still = x.size(2);
        tells("still", still);
        Matcher answer = Pattern.compile("(?m)^(int|boolean) \\w+ = .*; +// ").matcher(readme);
        Check.due("answers of README", answer.results().count(), told);
    }

    /** What README says behind a line must be what the class answers. */
    private static void tells(String name, Object answer) {
        told++;
        Matcher line = Pattern.compile("(?m)^(?:int|boolean) " + name + " = .*; +// (-?\\w+)").matcher(readme);
        Check.due("README tells " + name, line.find(), true);
        Check.due("README's " + name + " is " + answer, line.group(1).equals(String.valueOf(answer)), true);
    }

    static int load(OneAnswer x, String text) {
        for (int at = 0; at < text.length(); at += 20) {
            x.feed(four(text, at), four(text, at + 4), four(text, at + 8), four(text, at + 12), four(text, at + 16));
        }
        return x.well(text.length());
    }

    static int four(String text, int at) {
        int number = 0;
        for (int i = at; i < at + 4; i++) {
            number = number << 8 | (i < text.length() ? text.charAt(i) : ' ');
        }
        return number;
    }
}
