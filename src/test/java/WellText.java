import java.util.ArrayList;
import java.util.List;
import java.util.Random;

/** Makes texts: wells, most of them, and some with something wrong. */
final class WellText {
    private static final String[] ODD = {";", ",", "(", ")", "not", "and", "or", "fact", "well", "truth",
        "none", "law", "weds", "5", "999", "1000", "0", "abcdefghi", "a", "ha", "qa", "#", "yes", "no", "now", "A"};

    private final Random random;
    private final StringBuilder text = new StringBuilder();
    private int facts;
    private int houses;
    private int questions;

    WellText(Random random) {
        this.random = random;
    }

    String make() {
        boolean neat = random.nextInt(3) > 0;
        text.append("well now ").append(random.nextInt(random.nextBoolean() ? 40 : 1000));
        List<String> lines = new ArrayList<>();
        int wantedFacts = random.nextInt(40) == 0 ? 0 : 1 + random.nextInt(neat ? 6 : 7);
        for (int i = 0; i < wantedFacts; i++) {
            add("fact " + (char) ('a' + i) + " odds " + (1 + random.nextInt(9)));
            facts++;
        }
        int wantedHouses = random.nextInt(40) == 0 ? 0 : 1 + random.nextInt(neat ? 6 : 7);
        for (int i = 0; i < wantedHouses; i++) {
            add("house h" + (char) ('a' + i) + " first " + random.nextInt(random.nextBoolean() ? 20 : 1000)
                + " each " + (1 + random.nextInt(random.nextBoolean() ? 9 : 99)) + " twins " + random.nextInt(100));
            houses++;
        }
        int wantedQuestions = random.nextInt(neat ? 9 : 10);
        for (int i = 0; i < wantedQuestions; i++) {
            add("question q" + (char) ('a' + i) + " " + formula(2));
            questions++;
        }
        for (int i = random.nextInt(24); i > 0; i--) {
            lines.add(line());
        }
        for (String line : lines) {
            if (!line.isEmpty()) {
                add(line);
            }
        }
        String made = text.toString();
        if (random.nextInt(5) == 0) {
            made = spoil(made);
        }
        return made.length() > 900 ? made.substring(0, 900) : made;
    }

    private void add(String line) {
        if (text.length() + line.length() < 890) {
            text.append(random.nextInt(9) == 0 ? " ; " : ";").append(line);
        }
    }

    private String name(String ahead, int many) {
        return ahead + (char) ('a' + random.nextInt(random.nextInt(60) == 0 ? many + 1 : Math.max(1, many)));
    }

    private String answer() {
        return random.nextBoolean() ? "yes" : "no";
    }

    private String line() {
        switch (random.nextInt(9)) {
            case 0:
                return random.nextInt(2) > 0 ? "" : "law " + formula(2);
            case 1:
                return random.nextInt(3) == 0 ? "" : truth();
            case 2:
                return "twin " + name("h", houses) + " " + random.nextInt(random.nextInt(9) == 0 ? 33 : 31);
            case 3:
                return random.nextInt(3) > 0 ? "" : "ends " + name("h", houses) + " " + random.nextInt(1000);
            case 4:
                return "stone " + answer();
            case 5:
                return random.nextInt(2) > 0 ? "" : "weds " + name("h", houses) + " " + name("h", houses);
            default:
                return "told " + name("h", houses) + " " + name("q", questions) + " " + answer();
        }
    }

    private String truth() {
        if (random.nextInt(3) == 0) {
            return "truth none";
        }
        StringBuilder names = new StringBuilder();
        for (int f = 0; f < facts; f++) {
            if (random.nextBoolean()) {
                names.append(names.length() == 0 ? "truth " : ", ").append((char) ('a' + f));
            }
        }
        return names.toString();
    }

    private String formula(int depth) {
        int kind = random.nextInt(depth > 0 ? 6 : 2);
        switch (kind) {
            case 0:
                return name("", facts);
            case 1:
                return "not " + name("", facts);
            case 2:
                return "(" + formula(depth - 1) + ")";
            case 3:
                return formula(depth - 1) + " or " + formula(depth - 1);
            case 4:
                return "not (" + formula(depth - 1) + " and " + formula(depth - 1) + ")";
            default:
                return formula(depth - 1) + " and " + formula(depth - 1);
        }
    }

    private String spoil(String good) {
        int at = random.nextInt(good.length());
        String odd = ODD[random.nextInt(ODD.length)];
        switch (random.nextInt(6)) {
            case 0:
                return good.substring(0, at);
            case 1:
                return good.substring(0, at) + good.substring(Math.min(good.length(), at + 1 + random.nextInt(9)));
            case 2:
                return good.substring(0, at) + odd + good.substring(at);
            case 3:
                return good.substring(0, at) + " " + odd + " " + good.substring(at);
            case 4:
                int from = good.indexOf(' ', at);
                int to = from < 0 ? -1 : good.indexOf(' ', from + 1);
                return to < 0 ? good + ";" : good.substring(0, from + 1) + odd + good.substring(to);
            default:
                return good.substring(0, at) + (char) random.nextInt(256) + good.substring(at + 1);
        }
    }
}
