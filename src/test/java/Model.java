import java.util.ArrayList;
import java.util.HashMap;
import java.util.List;
import java.util.Map;
import java.util.function.IntPredicate;

/** The document once more, as plainly as can be, with lists of worlds: what OneAnswer is compared with. */
final class Model {
    static final class Fault extends RuntimeException {
        private static final long serialVersionUID = 1L;
        final int number;
        final int place;

        Fault(int number, int place) {
            this.number = number;
            this.place = place;
        }
    }

    record Token(char kind, String text, int at) {
    }

    record Answer(int house, int question, boolean yes) {
    }

    record State(List<Answer> answers, List<int[]> weddings, int now) {
    }

    static final class House {
        int first;
        int each;
        int twins;
        final List<Integer> told = new ArrayList<>();
        int ends = Integer.MAX_VALUE;

        /** Years of all askings up to a year that is far enough. */
        List<Integer> askings(int upTo) {
            List<Integer> years = new ArrayList<>();
            for (int g = 0; first + g * each <= upTo && first + g * each < ends; g++) {
                years.add(first + g * each);
                if (told.contains(g)) {
                    years.add(first + g * each);
                }
            }
            return years;
        }
    }

    private static final List<String> KEPT = List.of("well", "fact", "law", "truth", "none", "house",
        "twin", "ends", "question", "told", "stone", "weds", "not", "and", "or");
    private static final Map<String, Integer> ROOM = Map.of("fact", 6, "law", 6, "house", 6, "twin", 6,
        "question", 8, "told", 12, "stone", 4, "weds", 8);

    final List<Integer> odds = new ArrayList<>();
    final List<IntPredicate> laws = new ArrayList<>();
    List<Integer> truth;
    final List<House> houses = new ArrayList<>();
    final List<IntPredicate> questions = new ArrayList<>();
    final List<Boolean> stones = new ArrayList<>();
    int twinsTold;
    List<Answer> answers = new ArrayList<>();
    List<int[]> weddings = new ArrayList<>();
    int now;
    final List<State> undo = new ArrayList<>();
    final List<State> images = new ArrayList<>();

    // ---- the text

    private final Map<String, String> sorts = new HashMap<>();
    private final Map<String, Integer> numbers = new HashMap<>();
    private final List<Token> tokens = new ArrayList<>();
    private int here;
    private int factsInFormula;

    Model(String text) {
        cut(text);
        Map<String, Integer> lines = new HashMap<>();
        do {
            line(lines);
        } while (more());
        if (odds.isEmpty() || houses.isEmpty()) {
            throw new Fault(6, text.length());
        }
    }

    private void cut(String text) {
        int at = 0;
        while (at < text.length()) {
            char c = text.charAt(at);
            int to = at + 1;
            if (c >= 'a' && c <= 'z') {
                while (to < text.length() && text.charAt(to) >= 'a' && text.charAt(to) <= 'z') {
                    to++;
                }
                tokens.add(new Token(to - at > 8 ? '?' : 'w', text.substring(at, to), at));
            } else if (c >= '0' && c <= '9') {
                while (to < text.length() && text.charAt(to) >= '0' && text.charAt(to) <= '9') {
                    to++;
                }
                tokens.add(new Token(to - at > 3 ? '?' : 'n', text.substring(at, to), at));
            } else if (";,()".indexOf(c) >= 0) {
                tokens.add(new Token(c, "" + c, at));
            } else if (c != ' ') {
                tokens.add(new Token('?', "" + c, at));
            }
            at = to;
        }
        tokens.add(new Token('.', "", text.length()));
    }

    private Token token() {
        return tokens.get(here);
    }

    private boolean more() {
        if (token().kind == '.') {
            return false;
        }
        if (token().kind != ';') {
            throw new Fault(1, token().at);
        }
        here++;
        return true;
    }

    private void line(Map<String, Integer> lines) {
        Token word = token();
        boolean isLine = word.kind == 'w' && KEPT.subList(0, 12).contains(word.text)
            && !word.text.equals("none");
        if (!isLine) {
            throw new Fault(1, word.at);
        }
        if (here == 0 && !word.text.equals("well")) {
            throw new Fault(6, word.at);
        }
        int many = lines.merge(word.text, 1, Integer::sum);
        if (many > 1 && (word.text.equals("well") || word.text.equals("truth"))) {
            throw new Fault(3, word.at);
        }
        if (many > ROOM.getOrDefault(word.text, 1000)) {
            throw new Fault(5, word.at);
        }
        here++;
        switch (word.text) {
            case "well" -> {
                word("now");
                now = whole(0, 999);
            }
            case "fact" -> {
                tell("fact", odds.size());
                word("odds");
                odds.add(whole(1, 9));
            }
            case "law" -> {
                laws.add(formula());
                if (possible().isEmpty() || truth != null && !possible().contains(truthWorld())) {
                    throw new Fault(7, word.at);
                }
            }
            case "truth" -> truth(word.at);
            case "house" -> house();
            case "twin" -> {
                House house = houses.get(use("house"));
                int at = token().at;
                int generation = whole(0, 30);
                if (house.told.contains(generation)) {
                    throw new Fault(3, at);
                }
                house.told.add(generation);
                twinsTold++;
            }
            case "ends" -> {
                int at = token().at;
                House house = houses.get(use("house"));
                if (house.ends != Integer.MAX_VALUE) {
                    throw new Fault(3, at);
                }
                house.ends = whole(0, 999);
            }
            case "question" -> {
                tell("question", questions.size());
                questions.add(formula());
            }
            case "told" -> answers.add(new Answer(use("house"), use("question"), yes()));
            case "stone" -> stones.add(yes());
            default -> {
                int a = use("house");
                int at = token().at;
                int b = use("house");
                if (a == b || areWed(a, b)) {
                    throw new Fault(3, at);
                }
                weddings.add(new int[] {a, b});
            }
        }
    }

    private void truth(int at) {
        List<Integer> holding = new ArrayList<>();
        if (token().text.equals("none")) {
            here++;
        } else {
            boolean more = true;
            while (more) {
                int place = token().at;
                int fact = use("fact");
                if (holding.contains(fact)) {
                    throw new Fault(3, place);
                }
                holding.add(fact);
                more = token().kind == ',';
                here += more ? 1 : 0;
            }
        }
        truth = holding;
        if (!possible().contains(truthWorld())) {
            throw new Fault(7, at);
        }
    }

    private void house() {
        House house = new House();
        tell("house", houses.size());
        word("first");
        house.first = whole(0, 999);
        word("each");
        house.each = whole(1, 99);
        word("twins");
        house.twins = whole(0, 99);
        houses.add(house);
    }

    private void word(String text) {
        if (!token().text.equals(text)) {
            throw new Fault(1, token().at);
        }
        here++;
    }

    private int whole(int least, int most) {
        Token t = token();
        if (t.kind != 'n') {
            throw new Fault(1, t.at);
        }
        int value = Integer.parseInt(t.text);
        if (value < least || value > most) {
            throw new Fault(4, t.at);
        }
        here++;
        return value;
    }

    private boolean yes() {
        boolean yes = token().text.equals("yes");
        word(yes ? "yes" : "no");
        return yes;
    }

    private void tell(String sort, int number) {
        Token t = token();
        if (t.kind != 'w' || KEPT.contains(t.text)) {
            throw new Fault(1, t.at);
        }
        if (sorts.containsKey(t.text)) {
            throw new Fault(3, t.at);
        }
        sorts.put(t.text, sort);
        numbers.put(t.text, number);
        here++;
    }

    private int use(String sort) {
        Token t = token();
        if (t.kind != 'w' || KEPT.contains(t.text)) {
            throw new Fault(1, t.at);
        }
        if (!sort.equals(sorts.get(t.text))) {
            throw new Fault(2, t.at);
        }
        here++;
        return numbers.get(t.text);
    }

    private IntPredicate formula() {
        factsInFormula = 0;
        return anyOf(0);
    }

    private IntPredicate anyOf(int open) {
        IntPredicate so = allOf(open);
        while (token().text.equals("or")) {
            here++;
            so = so.or(allOf(open));
        }
        return so;
    }

    private IntPredicate allOf(int open) {
        IntPredicate so = factor(open);
        while (token().text.equals("and")) {
            here++;
            so = so.and(factor(open));
        }
        return so;
    }

    private IntPredicate factor(int open) {
        if (token().text.equals("not")) {
            here++;
            return factor(open).negate();
        }
        int at = token().at;
        if (token().kind == '(') {
            if (open == 8) {
                throw new Fault(5, at);
            }
            here++;
            IntPredicate so = anyOf(open + 1);
            word(")");
            return so;
        }
        int fact = use("fact");
        factsInFormula++;
        if (factsInFormula > 12) {
            throw new Fault(5, at);
        }
        return world -> (world >> fact & 1) == 1;
    }

    // ---- worlds

    List<Integer> possible() {
        List<Integer> worlds = new ArrayList<>();
        for (int world = 0; world < 1 << odds.size(); world++) {
            int w = world;
            if (laws.stream().allMatch(law -> law.test(w))) {
                worlds.add(world);
            }
        }
        return worlds;
    }

    int truthWorld() {
        return truth.stream().mapToInt(f -> 1 << f).sum();
    }

    int oddsOf(int world) {
        int product = 1;
        for (int f = 0; f < odds.size(); f++) {
            product *= (world >> f & 1) == 1 ? odds.get(f) : 10 - odds.get(f);
        }
        return product;
    }

    long oddsOf(List<Integer> worlds) {
        return worlds.stream().mapToLong(w -> oddsOf((int) w)).sum();
    }

    List<Integer> where(List<Integer> worlds, int question, boolean yes) {
        return worlds.stream().filter(w -> questions.get(question).test(w) == yes).toList();
    }

    static long fraction(long upper, long lower, boolean wantsLower) {
        long common = java.math.BigInteger.valueOf(upper).gcd(java.math.BigInteger.valueOf(lower)).longValue();
        return (wantsLower ? lower : upper) / common;
    }

    // ---- liars

    List<Integer> lyingSets() {
        List<Integer> sets = new ArrayList<>();
        for (int set = 0; set < 1 << houses.size(); set++) {
            if (!left(answers, set, -1).isEmpty()) {
                sets.add(set);
            }
        }
        return sets;
    }

    int fewestLiars() {
        return lyingSets().stream().mapToInt(s -> Integer.bitCount(s)).min().orElse(-1);
    }

    int liars() {
        int fewest = fewestLiars();
        return lyingSets().stream().filter(s -> Integer.bitCount(s) == fewest).mapToInt(s -> s).min().orElse(0);
    }

    /** The worlds by the answers of some houses, a set of houses turned round. */
    List<Integer> left(List<Answer> told, int liars, int ofHouses) {
        List<Integer> worlds = possible();
        for (Answer a : told) {
            if ((ofHouses >> a.house & 1) == 1) {
                worlds = where(worlds, a.question, a.yes != ((liars >> a.house & 1) == 1));
            }
        }
        return worlds;
    }

    int kin(int house) {
        int kin = 1 << house;
        for (int round = 0; round < 40; round++) {
            for (int[] pair : weddings) {
                if ((kin >> pair[0] & 1) == 1 || (kin >> pair[1] & 1) == 1) {
                    kin |= 1 << pair[0] | 1 << pair[1];
                }
            }
        }
        return kin;
    }

    boolean areWed(int a, int b) {
        return weddings.stream().anyMatch(p -> p[0] == a && p[1] == b || p[0] == b && p[1] == a);
    }

    List<Integer> knownTo(int house) {
        return left(answers, liars(), kin(house));
    }

    List<Integer> knownToAll() {
        return left(answers, liars(), -1);
    }

    static int verdict(List<Integer> worlds, IntPredicate so) {
        if (worlds.isEmpty()) {
            return -2;
        }
        boolean all = worlds.stream().allMatch(w -> so.test(w));
        boolean none = worlds.stream().noneMatch(w -> so.test(w));
        return all ? 1 : none ? 0 : -2;
    }

    int settled(List<Integer> worlds) {
        int bits = 0;
        for (int q = 0; q < questions.size(); q++) {
            bits |= verdict(worlds, questions.get(q)) == -2 ? 0 : 1 << q;
        }
        return bits;
    }

    int bestWedding() {
        int best = -2;
        int most = -1;
        for (int a = 0; a < houses.size(); a++) {
            for (int b = a + 1; b < houses.size(); b++) {
                if ((kin(a) >> b & 1) == 0) {
                    int then = settled(left(answers, liars(), kin(a) | kin(b)));
                    int gain = Integer.bitCount(then & ~settled(knownTo(a)) & ~settled(knownTo(b)));
                    if (gain > most) {
                        most = gain;
                        best = 10 * a + b;
                    }
                }
            }
        }
        return best;
    }

    int needless(int house) {
        int bits = 0;
        for (int k = 0; k < answers.size(); k++) {
            List<Answer> others = new ArrayList<>(answers);
            others.remove(k);
            if ((kin(house) >> answers.get(k).house & 1) == 1
                && left(others, liars(), kin(house)).size() == knownTo(house).size()) {
                bits |= 1 << k;
            }
        }
        return bits;
    }

    // ---- answers

    int takes(int k) {
        int liars = liars();
        return left(answers.subList(0, k), liars, -1).size() - left(answers.subList(0, k + 1), liars, -1).size();
    }

    boolean clash(int i, int j) {
        return i != j && left(List.of(answers.get(i), answers.get(j)), 0, -1).isEmpty();
    }

    int clashesOf(int k) {
        int clashes = 0;
        for (int i = 0; i < answers.size(); i++) {
            clashes += clash(k, i) ? 1 : 0;
        }
        return clashes;
    }

    // ---- stones

    int could(int stone, List<Integer> worlds) {
        int bits = 0;
        for (int q = 0; q < questions.size(); q++) {
            bits |= where(worlds, q, stones.get(stone)).isEmpty() ? 0 : 1 << q;
        }
        return bits;
    }

    int tells() {
        int best = -2;
        int fewest = Integer.MAX_VALUE;
        for (int q = 0; q < questions.size(); q++) {
            int most = 0;
            for (boolean yes : new boolean[] {true, false}) {
                List<Integer> then = where(knownToAll(), q, yes);
                int sum = 0;
                for (int s = 0; s < stones.size(); s++) {
                    sum += Integer.bitCount(could(s, then));
                }
                most = Math.max(most, then.isEmpty() ? 0 : sum);
            }
            if (most < fewest) {
                fewest = most;
                best = q;
            }
        }
        return best;
    }

    // ---- plans

    /** The least price of plans, by worst case or by odds together; -1 if there is none. */
    long price(List<Integer> worlds, int target, int unasked, boolean byOdds, Map<String, Long> memo) {
        if (worlds.isEmpty()) {
            return -1;
        }
        if (verdict(worlds, questions.get(target)) != -2) {
            return 0;
        }
        String key = worlds + " " + unasked;
        Long old = memo.get(key);
        if (old != null) {
            return old;
        }
        long least = -1;
        for (int q = 0; q < questions.size(); q++) {
            if (q != target && (unasked >> q & 1) == 1) {
                long price = priceBy(worlds, target, unasked, byOdds, memo, q);
                least = price >= 0 && (least < 0 || price < least) ? price : least;
            }
        }
        memo.put(key, least);
        return least;
    }

    long priceBy(List<Integer> worlds, int target, int unasked, boolean byOdds, Map<String, Long> memo, int q) {
        List<Integer> yes = where(worlds, q, true);
        List<Integer> no = where(worlds, q, false);
        if (yes.isEmpty() || no.isEmpty()) {
            return -1;
        }
        long a = price(yes, target, unasked & ~(1 << q), byOdds, memo);
        long b = price(no, target, unasked & ~(1 << q), byOdds, memo);
        if (a < 0 || b < 0) {
            return -1;
        }
        return byOdds ? oddsOf(worlds) + a + b : 1 + Math.max(a, b);
    }

    long price(int house, int target, boolean byOdds) {
        return price(knownTo(house), target, 255, byOdds, new HashMap<>());
    }

    int first(int house, int target) {
        long least = price(house, target, false);
        for (int q = 0; q < questions.size() && least > 0; q++) {
            if (q != target && priceBy(knownTo(house), target, 255, false, new HashMap<>(), q) == least) {
                return q;
            }
        }
        return -2;
    }

    // ---- turns

    int asking(int house, int i) {
        List<Integer> years = houses.get(house).askings(20000);
        return i < years.size() ? years.get(i) : -2;
    }

    int next(int house) {
        return houses.get(house).askings(20000).stream().filter(y -> y >= now).findFirst().orElse(-2);
    }

    int turnOf(int i) {
        List<int[]> turns = new ArrayList<>();
        for (int h = 0; h < houses.size(); h++) {
            for (int year : houses.get(h).askings(20000)) {
                turns.add(new int[] {year, h});
            }
        }
        turns.sort((a, b) -> a[0] != b[0] ? a[0] - b[0] : a[1] - b[1]);
        return i < turns.size() ? turns.get(i)[1] : -2;
    }

    int turnsTo(int year) {
        return houses.stream().mapToInt(h -> h.askings(year).size()).sum();
    }

    int births(int house, long seed, int n) {
        int askings = n;
        long draw = seed;
        for (int i = 0; i < n; i++) {
            draw = (draw * 75 + 74) % 65537;
            askings += draw % 100 < houses.get(house).twins ? 1 : 0;
        }
        return askings;
    }

    // ---- acts

    State state() {
        return new State(new ArrayList<>(answers), new ArrayList<>(weddings), now);
    }

    void goTo(State state) {
        answers = new ArrayList<>(state.answers);
        weddings = new ArrayList<>(state.weddings);
        now = state.now;
    }

    void keep() {
        undo.add(state());
        if (undo.size() > 12) {
            undo.remove(0);
        }
    }
}
