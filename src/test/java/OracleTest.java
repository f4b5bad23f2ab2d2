import java.util.ArrayList;
import java.util.List;
import java.util.Random;

/** Random wells and random calls, compared with the model. */
public final class OracleTest {
    private final Random random;
    private final OneAnswer x = new OneAnswer();
    private Model model;
    private int trouble;
    private int fault;
    private int place;
    private final List<String> log = new ArrayList<>();

    private OracleTest(long seed) {
        random = new Random(seed);
    }

    public static void main(String[] args) {
        int rounds = args.length > 0 ? Integer.parseInt(args[0]) : 1500;
        int sound = 0;
        for (int seed = 0; seed < rounds; seed++) {
            OracleTest test = new OracleTest(seed);
            sound += test.run();
            if (!Check.soFarSo()) {
                System.out.println("seed " + seed);
                test.log.forEach(System.out::println);
                break;
            }
        }
        System.out.println(sound + " of the texts were wells");
        Check.due("enough wells", sound > rounds / 2, true);
        Check.end();
    }

    private int run() {
        int sound = 0;
        int calls = 0;
        // A text takes 48 calls and each round two more: all of them stay within the 512 of an object.
        while (calls < 462) {
            if (random.nextInt(60) == 0 || calls == 0) {
                sound += loadOne() ? 1 : 0;
                calls += 48;
            }
            call();
            compare("trouble", x.trouble(), trouble);
            calls += 2;
        }
        return sound > 0 ? 1 : 0;
    }

    private void compare(String what, long got, long want) {
        if (Check.soFarSo()) {
            log.add(what + " = " + got);
        }
        Check.due(what, got, want);
    }

    private boolean loadOne() {
        WellText text = new WellText(random);
        String told = text.make();
        log.add("\"" + told + "\"");
        Check.feed(x, told);
        compare("tape", x.size(12), (told.length() + 19) / 20 * 20);
        Model next = null;
        fault = 0;
        try {
            next = new Model(told);
        } catch (Model.Fault e) {
            fault = e.number;
            place = e.place;
        }
        trouble = fault == 0 ? 0 : 4;
        model = next == null ? model : next;
        compare("well", x.well(told.length()), next == null ? -1 : next.houses.size());
        compare("where", x.where(), fault == 0 ? -1 : place);
        return next != null;
    }

    private int any(int room) {
        return random.nextInt(12) == 0 ? random.nextInt(room + 3) - 1 : random.nextInt(Math.max(room, 1));
    }

    private int refuse(int number) {
        trouble = number;
        return -1;
    }

    private int right(int value) {
        trouble = 0;
        return value;
    }

    private static boolean in(int i, int room) {
        return i >= 0 && i < room;
    }

    private void call() {
        switch (random.nextInt(10)) {
            case 0 -> worlds();
            case 1 -> liars();
            case 2 -> known();
            case 3 -> knownMore();
            case 4 -> answers();
            case 5 -> stones();
            case 6 -> questions();
            case 7 -> turns();
            case 8 -> acts();
            default -> rest();
        }
    }

    private int houses() {
        return model == null ? 0 : model.houses.size();
    }

    private int asked() {
        return model == null ? 0 : model.questions.size();
    }

    private void worlds() {
        int all = model == null ? 0 : 1 << model.odds.size();
        int world = any(all);
        int q = any(asked());
        int o = any(asked());
        boolean lower = random.nextBoolean();
        boolean good = in(q, asked());
        switch (random.nextInt(7)) {
            case 0 -> compare("canBe " + world, x.canBe(world),
                in(world, all) ? right(model.possible().contains(world) ? 1 : 0) : refuse(1));
            case 1 -> compare("worlds", x.worlds(), model != null ? right(model.possible().size()) : refuse(1));
            case 2 -> compare("odds " + world, x.odds(world),
                in(world, all) ? right(model.oddsOf(world)) : refuse(1));
            case 3 -> compare("isSo " + q + " " + world, x.isSo(q, world),
                in(world, all) && good ? right(model.questions.get(q).test(world) ? 1 : 0) : refuse(1));
            case 4 -> {
                right(0);
                compare("chance " + q + " " + lower, x.chance(q, lower), !good ? refuse(1)
                    : Model.fraction(model.oddsOf(model.where(model.possible(), q, true)),
                        model.oddsOf(model.possible()), lower));
            }
            case 5 -> compare("alike " + q, x.alike(q), good ? right(alike(q)) : refuse(1));
            default -> compare("implies " + q + " " + o, x.implies(q, o), good && in(o, asked())
                ? right(model.where(model.where(model.possible(), q, true), o, false).isEmpty() ? 1 : 0)
                : refuse(1));
        }
    }

    private int alike(int q) {
        int bits = 0;
        for (int o = 0; o < asked(); o++) {
            boolean same = model.where(model.possible(), q, true).equals(model.where(model.possible(), o, true));
            bits |= same ? 1 << o : 0;
        }
        return bits;
    }

    private void liars() {
        int h = any(houses());
        switch (random.nextInt(3)) {
            case 0 -> compare("liars", x.liars(), model == null ? refuse(1)
                : right(model.lyingSets().isEmpty() ? -2 : model.liars()));
            case 1 -> compare("sets", x.sets(), model == null ? refuse(1) : right(model.lyingSets().size()));
            default -> compare("lies " + h, x.lies(h), in(h, houses()) ? right(lies(h)) : refuse(1));
        }
    }

    private int lies(int h) {
        int fewest = model.fewestLiars();
        List<Integer> sets = model.lyingSets().stream().filter(s -> Integer.bitCount(s) == fewest).toList();
        if (sets.isEmpty()) {
            return -2;
        }
        return sets.stream().allMatch(s -> (s >> h & 1) == 1) ? 2
            : sets.stream().anyMatch(s -> (s >> h & 1) == 1) ? 1 : 0;
    }

    private void known() {
        int h = any(houses());
        int q = any(asked());
        int facts = model == null ? 0 : model.odds.size();
        int f = any(facts);
        boolean goodHouse = in(h, houses());
        switch (random.nextInt(6)) {
            case 0 -> compare("kin " + h, x.kin(h), goodHouse ? right(model.kin(h)) : refuse(1));
            case 1 -> compare("left " + h, x.left(h), goodHouse ? right(model.knownTo(h).size()) : refuse(1));
            case 2 -> compare("known " + h + " " + q, x.known(h, q), goodHouse && in(q, asked())
                ? right(Model.verdict(model.knownTo(h), model.questions.get(q))) : refuse(1));
            case 3 -> compare("fact " + h + " " + f, x.fact(h, f), goodHouse && in(f, facts)
                ? right(Model.verdict(model.knownTo(h), w -> (w >> f & 1) == 1)) : refuse(1));
            case 4 -> compare("knownByAll " + q, x.knownByAll(q), in(q, asked())
                ? right(Model.verdict(model.knownToAll(), model.questions.get(q))) : refuse(1));
            default -> compare("onlyTogether", x.onlyTogether(), model == null ? refuse(1) : right(together()));
        }
    }

    private int together() {
        int bits = model.settled(model.knownToAll());
        for (int h = 0; h < houses(); h++) {
            bits &= ~model.settled(model.knownTo(h));
        }
        return bits;
    }

    private void knownMore() {
        int h = any(houses());
        int q = any(asked());
        boolean flag = random.nextBoolean();
        boolean good = in(h, houses());
        boolean both = good && in(q, asked());
        switch (random.nextInt(5)) {
            case 0 -> compare("bestWedding", x.bestWedding(), model == null ? refuse(1) : right(model.bestWedding()));
            case 1 -> compare("likeliest " + h, x.likeliest(h), good ? right(likeliest(h)) : refuse(1));
            case 2 -> {
                right(0);
                long got = x.chanceOf(h, q, flag);
                compare("chanceOf " + h + " " + q + " " + flag, got, !both ? refuse(1)
                    : model.knownTo(h).isEmpty() ? refuse(6)
                    : Model.fraction(model.oddsOf(model.where(model.knownTo(h), q, true)),
                        model.oddsOf(model.knownTo(h)), flag));
            }
            case 3 -> {
                int got = x.wouldKnow(h, q, flag);
                compare("wouldKnow " + h + " " + q + " " + flag, got, !both ? refuse(1)
                    : right(model.where(model.knownTo(h), q, flag).isEmpty() ? -2
                        : model.settled(model.where(model.knownTo(h), q, flag))));
            }
            default -> compare("needless " + h, x.needless(h), good ? right(model.needless(h)) : refuse(1));
        }
    }

    private int likeliest(int h) {
        int best = -2;
        for (int w : model.knownTo(h)) {
            best = best == -2 || model.oddsOf(w) > model.oddsOf(best) ? w : best;
        }
        return best;
    }

    private void answers() {
        int told = model == null ? 0 : model.answers.size();
        int k = any(told);
        int h = any(houses());
        int what = any(5);
        switch (random.nextInt(4)) {
            case 0 -> compare("told " + k + " " + what, x.told(k, what),
                in(k, told) && in(what, 5) ? right(toldOf(k, what)) : refuse(1));
            case 1 -> {
                int pairs = 0;
                for (int i = 0; i < told; i++) {
                    pairs += model.clashesOf(i);
                }
                compare("clashes", x.clashes(), model == null ? refuse(1) : right(pairs / 2));
            }
            case 2 -> compare("takes " + k, x.takes(k), in(k, told) ? right(model.takes(k)) : refuse(1));
            default -> compare("graves " + h, x.graves(h), in(h, houses())
                ? right((int) model.answers.stream().filter(a -> a.house() == h && a.yes()).count()) : refuse(1));
        }
    }

    private int toldOf(int k, int what) {
        Model.Answer a = model.answers.get(k);
        return switch (what) {
            case 0 -> a.house();
            case 1 -> a.question();
            case 2 -> a.yes() ? 1 : 0;
            case 3 -> model.takes(k) == 0 ? 1 : 0;
            default -> model.clashesOf(k);
        };
    }

    private void stones() {
        int stones = model == null ? 0 : model.stones.size();
        int s = any(stones);
        switch (random.nextInt(3)) {
            case 0 -> compare("could " + s, x.could(s),
                in(s, stones) ? right(model.could(s, model.knownToAll())) : refuse(1));
            case 1 -> compare("surely " + s, x.surely(s), in(s, stones) ? right(surely(s)) : refuse(1));
            default -> compare("tells", x.tells(), model == null ? refuse(1) : right(model.tells()));
        }
    }

    private int surely(int s) {
        int bits = 0;
        for (int q = 0; q < asked(); q++) {
            int sought = model.stones.get(s) ? 1 : 0;
            bits |= Model.verdict(model.knownToAll(), model.questions.get(q)) == sought ? 1 << q : 0;
        }
        return bits;
    }

    private void questions() {
        int h = any(houses());
        int q = any(asked());
        boolean lower = random.nextBoolean();
        boolean good = in(h, houses());
        boolean both = good && in(q, asked());
        String of = " " + h + " " + q;
        switch (random.nextInt(6)) {
            case 0 -> compare("best " + h, x.best(h), good ? right(best(h)) : refuse(1));
            case 1 -> compare("bestLeft " + h, x.bestLeft(h), !good ? refuse(1)
                : asked() == 0 ? refuse(6) : right((int) mostLeft(h, best(h))));
            case 2 -> {
                long got = x.leftMean(h, q, lower);
                compare("leftMean" + of + lower, got, !both ? refuse(1)
                    : model.knownTo(h).isEmpty() ? refuse(6) : leftMean(h, q, lower));
            }
            case 3 -> compare("fewest" + of, x.fewest(h, q), !both ? refuse(1) : right(fewest(h, q)));
            case 4 -> compare("first" + of, x.first(h, q), !both ? refuse(1) : right(model.first(h, q)));
            default -> {
                long got = x.mean(h, q, lower);
                long price = both ? model.price(h, q, true) : -1;
                right(0);
                compare("mean" + of + lower, got, !both ? refuse(1) : price < 0 ? refuse(6)
                    : Model.fraction(price, model.oddsOf(model.knownTo(h)), lower));
            }
        }
    }

    private int fewest(int h, int q) {
        long price = model.price(h, q, false);
        return price < 0 ? -2 : (int) price;
    }

    private long mostLeft(int h, int q) {
        return Math.max(model.oddsOf(model.where(model.knownTo(h), q, true)),
            model.oddsOf(model.where(model.knownTo(h), q, false)));
    }

    private int best(int h) {
        int best = -2;
        for (int q = 0; q < asked(); q++) {
            best = best == -2 || mostLeft(h, q) < mostLeft(h, best) ? q : best;
        }
        return best;
    }

    private long leftMean(int h, int q, boolean lower) {
        trouble = 0;
        long yes = model.oddsOf(model.where(model.knownTo(h), q, true));
        long no = model.oddsOf(model.where(model.knownTo(h), q, false));
        return Model.fraction(yes * yes + no * no, yes + no, lower);
    }

    private void turns() {
        int h = any(houses());
        int i = any(100);
        int year = any(1000);
        int seed = any(65537);
        int n = any(100);
        boolean good = in(h, houses());
        switch (random.nextInt(5)) {
            case 0 -> compare("asking " + h + " " + i, x.asking(h, i), !good ? refuse(1)
                : !in(i, 100) ? refuse(2) : right(model.asking(h, i)));
            case 1 -> compare("next " + h, x.next(h), good ? right(model.next(h)) : refuse(1));
            case 2 -> compare("turnOf " + i, x.turnOf(i), model == null ? refuse(1)
                : !in(i, 100) ? refuse(2) : right(model.turnOf(i)));
            case 3 -> compare("turnsTo " + year, x.turnsTo(year), model == null ? refuse(1)
                : !in(year, 1000) ? refuse(2) : right(model.turnsTo(year)));
            default -> compare("births " + h + " " + seed + " " + n, x.births(h, seed, n), !good ? refuse(1)
                : !in(seed, 65537) || !in(n, 100) ? refuse(2) : right(model.births(h, seed, n)));
        }
    }

    private void acts() {
        int h = any(houses());
        int o = any(houses());
        int q = any(asked());
        int n = any(100);
        int i = any(3);
        switch (random.nextInt(8)) {
            case 0, 1 -> compare("ask " + h + " " + q, x.ask(h, q), tell(h, q, false));
            case 2 -> compare("lie " + h + " " + q, x.lie(h, q), tell(h, q, true));
            case 3 -> compare("wed " + h + " " + o, x.wed(h, o) ? 1 : 0, wed(h, o));
            case 4 -> compare("years " + n, x.years(n), years(n));
            case 5 -> compare("undo", x.undo() ? 1 : 0, undo());
            case 6 -> compare("image", x.image(), image());
            default -> compare("back " + i, x.back(i) ? 1 : 0, back(i));
        }
    }

    private int tell(int h, int q, boolean lying) {
        if (!in(h, houses()) || !in(q, asked())) {
            return refuse(1);
        }
        if (model.truth == null) {
            return refuse(6);
        }
        if (model.answers.size() == 20) {
            return refuse(3);
        }
        model.keep();
        boolean yes = model.questions.get(q).test(model.truthWorld()) != lying;
        model.answers.add(new Model.Answer(h, q, yes));
        return right(yes ? 1 : 0);
    }

    private int wed(int h, int o) {
        if (!in(h, houses()) || !in(o, houses()) || h == o) {
            refuse(1);
            return 0;
        }
        if (model.areWed(h, o)) {
            refuse(5);
            return 0;
        }
        model.keep();
        model.weddings.add(new int[] {h, o});
        return right(1);
    }

    private int years(int n) {
        if (model == null) {
            return refuse(1);
        }
        if (n < 1 || n > 99) {
            return refuse(2);
        }
        if (model.now + n > 999) {
            return refuse(3);
        }
        model.keep();
        model.now += n;
        return right(model.now);
    }

    private int undo() {
        if (model == null || model.undo.isEmpty()) {
            refuse(6);
            return 0;
        }
        model.goTo(model.undo.remove(model.undo.size() - 1));
        return right(1);
    }

    private int image() {
        if (model == null) {
            return refuse(1);
        }
        if (model.images.size() == 3) {
            return refuse(3);
        }
        model.images.add(model.state());
        return right(model.images.size() - 1);
    }

    private int back(int i) {
        if (model == null || !in(i, model.images.size())) {
            refuse(1);
            return 0;
        }
        model.goTo(model.images.get(i));
        model.undo.clear();
        return right(1);
    }

    private void rest() {
        int i = any(4);
        switch (random.nextInt(4)) {
            case 0 -> compare("fault", x.fault(), fault);
            case 1 -> compare("where", x.where(), trouble == 4 ? place : -1);
            case 2 -> led(i);
            default -> {
                int what = random.nextInt(15) - 1;
                compare("size " + what, x.size(what), sizeOf(what));
            }
        }
    }

    private void led(int i) {
        List<Integer> wasted = new ArrayList<>();
        for (int k = 0; model != null && k < model.answers.size(); k++) {
            if (model.takes(k) == 0) {
                wasted.add(k);
            }
        }
        int got = -7;
        try {
            got = x.led(i);
        } catch (java.util.NoSuchElementException e) {
            got = -9;
        }
        compare("led " + i, got, in(i, wasted.size()) ? wasted.get(i) : -9);
    }

    private int sizeOf(int what) {
        if (what < 0 || what > 12) {
            return -1;
        }
        if (model == null || what == 12) {
            return 0;
        }
        return switch (what) {
            case 0 -> model.odds.size();
            case 1 -> model.laws.size();
            case 2 -> model.houses.size();
            case 3 -> model.twinsTold;
            case 4 -> model.questions.size();
            case 5 -> model.answers.size();
            case 6 -> model.stones.size();
            case 7 -> model.weddings.size();
            case 8 -> model.now;
            case 9 -> model.truth == null ? 0 : 1;
            case 10 -> model.undo.size();
            default -> model.images.size();
        };
    }
}
