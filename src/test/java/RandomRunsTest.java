import java.util.Random;

/**
 * Runs of calls drawn from fixed seeds, each answer held against that of PlainCradles. The first argument
 * is how many runs, the second the first seed.
 */
public final class RandomRunsTest {
    private static final String[] WORDS = {"near", "far", "up", "same", "girls", "boys", "old", "all", "gone",
        "rise", "sound", "film", "long", "year"};
    private static final String[] SIGNS = {"<", "<=", ">", ">=", "=", "#"};
    private static final String[] STRAYS = {"near", "worth", "bar", "past", ";", "(", ")", "-", "not", ",", "min",
        "10000", "0", "21", "61", "%", "Near", "nears", "or", "and", "<", "=", "#", "max(", "99999999999", "\u00e9"};
    // Under these names come and go, so that films, sounds and standings bring something.
    private static final String[] LIVELY = {"worth sound*2-near*3+film;", "worth 9-near+sound;bar near>4;near 3;",
        "worth up*3-same+film/3;near 4;", "worth gone-near*9+film*2;", "worth boys-girls*2;bar gone<1;",
        "worth rise*4+sound-same;bar near>=6;", "worth 0-all+film;near 2;bar far>3 and near>0;",
        "worth girls-boys+gone/3-near*2;", "worth old*5-all+sound*3;past 8;", "worth year*long/7-same*2;near 6;"};
    private static final String[] KNOWN = {"anna", "ena", "lina", "otto", "bruno", "enno", "kim", "tim", "mia", "lea",
        "leo", "theo", "ina", "udo", "ada", "jim"};
    private static int wrong = 0;

    private final Random random;
    private final long seed;
    private final CradleNames real = new CradleNames();
    private final PlainCradles plain = new PlainCradles();
    private final boolean lively;
    private int calls;
    // Runs over every year are dear in the plain model, so each run of calls has a purse for them.
    private int purse = 12;

    private RandomRunsTest(long seed) {
        this.seed = seed;
        random = new Random(seed);
        lively = random.nextInt(4) != 0;
    }

    private void due(String call, long got, long want) {
        calls++;
        if (got != want) {
            wrong++;
            System.out.println("seed " + seed + ", call " + calls + ": " + call + " answered " + got + ", due is " + want);
        }
    }

    private static String text(String name, Object... args) {
        StringBuilder b = new StringBuilder(name).append('(');
        for (int i = 0; i < args.length; i++) {
            b.append(i == 0 ? "" : ", ").append(args[i]);
        }
        return b.append(')').toString();
    }

    private static long bit(boolean b) {
        return b ? 1 : 0;
    }

    /** A value of from .. to mostly, sometimes one beside it or far away. */
    private int some(int from, int to) {
        int way = random.nextInt(60);
        if (way == 0) {
            return from - 1;
        }
        if (way == 1) {
            return to + 1;
        }
        if (way == 2) {
            return random.nextBoolean() ? Integer.MAX_VALUE : Integer.MIN_VALUE;
        }
        return to < from ? from : from + random.nextInt(to - from + 1);
    }

    private int aName() {
        return some(0, plain.s.names.size() - 1);
    }

    private int aYear() {
        return some(0, plain.s.clock - 1);
    }

    private int orAll(int value) {
        return random.nextInt(3) == 0 ? -1 : value;
    }

    // ---- texts

    private String sum(int depth) {
        StringBuilder b = new StringBuilder(product(depth));
        while (random.nextInt(3) == 0) {
            b.append(random.nextBoolean() ? "+" : " - ").append(product(depth));
        }
        return b.toString();
    }

    private String product(int depth) {
        StringBuilder b = new StringBuilder(one(depth));
        while (random.nextInt(4) == 0) {
            b.append(random.nextBoolean() ? "*" : "/").append(one(depth));
        }
        return b.toString();
    }

    private String one(int depth) {
        int way = depth > 9 ? random.nextInt(6) : random.nextInt(11);
        switch (way) {
            case 0: case 1: return Integer.toString(random.nextInt(random.nextBoolean() ? 12 : 10000));
            case 2: case 3: case 4: case 5: case 6: return WORDS[random.nextInt(WORDS.length)];
            case 7: return "(" + sum(depth + 1) + ")";
            case 8: return "-" + one(depth + 1);
            default: return (random.nextBoolean() ? "min(" : "max (") + sum(depth + 1) + "," + sum(depth + 1) + ")";
        }
    }

    private String ask(int depth) {
        if (random.nextInt(4) == 0 && depth < 12) {
            return "not " + ask(depth + 1);
        }
        return sum(depth) + SIGNS[random.nextInt(6)] + sum(depth);
    }

    private String either() {
        StringBuilder b = new StringBuilder(ask(0));
        while (random.nextInt(3) == 0) {
            b.append(random.nextBoolean() ? " or " : "\nand ").append(ask(0));
        }
        return b.toString();
    }

    private String tasteText() {
        StringBuilder b = new StringBuilder();
        if (random.nextInt(lively ? 6 : 3) != 0 == lively) {
            return LIVELY[random.nextInt(LIVELY.length)];
        }
        if (random.nextInt(4) == 0) {
            b.append("near ").append(1 + random.nextInt(random.nextInt(9) == 0 ? 22 : 20)).append(';');
        }
        if (random.nextInt(9) != 0) {
            b.append("worth ").append(sum(0)).append("; ");
        }
        int bars = random.nextInt(40) == 0 ? 14 : random.nextInt(3);
        for (int i = 0; i < bars; i++) {
            b.append("bar ").append(bars > 3 ? "far>" + i : random.nextBoolean() ? "near > " + random.nextInt(5) : either());
            b.append(';');
        }
        if (random.nextInt(4) == 0) {
            b.append("past").append(random.nextInt(random.nextInt(9) == 0 ? 64 : 61)).append(';');
        }
        if (random.nextInt(6) == 0) {
            b.insert(random.nextInt(b.length() + 1), STRAYS[random.nextInt(STRAYS.length)]);
        }
        if (random.nextInt(20) == 0 && b.length() > 0) {
            b.deleteCharAt(random.nextInt(b.length()));
        }
        return b.length() > 300 ? b.substring(0, 300) : b.toString();
    }

    private void feed(String text, int at) {
        int[] v = new int[5];
        for (int i = 0; i < 20; i++) {
            int c = at + i < text.length() ? text.charAt(at + i) : ' ';
            v[i / 4] = v[i / 4] << 8 | c & 255;
        }
        due(text("feed", v[0], v[1], v[2], v[3], v[4]), real.feed(v[0], v[1], v[2], v[3], v[4]),
                plain.feed(v[0], v[1], v[2], v[3], v[4]));
    }

    private void end(int n) {
        due(text("end", n), real.end(n), plain.end(n));
    }

    private void tellTaste() {
        String t = tasteText();
        end(0);
        for (int at = 0; at < t.length(); at += 20) {
            feed(t, at);
        }
        end(random.nextInt(50) == 0 ? some(0, 300) : t.length());
        due("about(6)", real.about(6), plain.about(6));
        due("taste of [" + t + "]", real.taste(), plain.taste());
        due("fault(0)", real.fault(0), plain.fault(0));
        due("fault(1)", real.fault(1), plain.fault(1));
    }

    // ---- calls

    private long letters() {
        long v = 0;
        int length = some(2, random.nextBoolean() ? 3 : 10);
        String few = random.nextBoolean() ? "aeibdm" : "abcdefghijklmnopqrstuvwxyz";
        if (lively && random.nextInt(6) != 0) {
            return Due.letters(KNOWN[random.nextInt(KNOWN.length)]);
        }
        for (int i = 0; i < Math.max(0, Math.min(length, 12)); i++) {
            v = v << 5 | (few.charAt(random.nextInt(few.length())) - 'a' + 1);
        }
        return random.nextInt(40) == 0 ? random.nextLong() : v;
    }

    private void name() {
        long v = letters();
        int sexes = some(1, 3);
        due(text("name", v, sexes), real.name(v, sexes), plain.name(v, sexes));
    }

    private void born() {
        int a = aName();
        int b = some(0, 2);
        int c = some(0, 1);
        int d = some(0, 1);
        int e = random.nextBoolean() ? some(1, 40) : some(1, 3);
        int n = some(1, random.nextInt(4) == 0 ? 99 : 9);
        due(text("born", a, b, c, d, e, n), real.born(a, b, c, d, e, n), plain.born(a, b, c, d, e, n));
    }

    private void tell() {
        int a = some(0, 2);
        int b = some(0, 1);
        int c = some(0, 1);
        switch (random.nextInt(8)) {
            case 0: case 1: case 2: {
                int n = some(0, 6);
                due(text("cradles", a, b, c, n), bit(real.cradles(a, b, c, n)), bit(plain.cradles(a, b, c, n)));
                break;
            }
            case 3: {
                int from = random.nextBoolean() ? some(plain.s.clock, 60) : some(plain.s.clock, plain.s.clock + 3);
                int set = random.nextInt(4) == 0 ? random.nextInt() : random.nextInt(1 << 16);
                due(text("list", from, set), real.list(from, set), plain.list(from, set));
                break;
            }
            case 4: {
                int name = aName();
                int year = random.nextBoolean() ? some(plain.s.clock, 60) : some(plain.s.clock, plain.s.clock + 3);
                int points = random.nextBoolean() ? some(1, 999) : some(1, 40);
                due(text("film", name, year, points), real.film(name, year, points), plain.film(name, year, points));
                break;
            }
            case 5: {
                int years = some(20, 90);
                due(text("life", years), bit(real.life(years)), bit(plain.life(years)));
                break;
            }
            default: {
                int taste = random.nextInt(9) == 0 ? -1 : some(0, plain.s.tastes.size() - 1);
                due(text("by", b, taste), bit(real.by(b, taste)), bit(plain.by(b, taste)));
            }
        }
    }

    private void years() {
        int n = random.nextInt(3) == 0 ? some(1, 20) : some(1, 4);
        due(text("years", n), real.years(n), plain.years(n));
    }

    private void askRows() {
        int year = random.nextInt(4) == 0 ? some(-40, -1) : aYear();
        int a = orAll(some(0, 2));
        int b = orAll(some(0, 1));
        int c = orAll(some(0, 1));
        int d = orAll(aName());
        due(text("given", year, a, b, c, d), real.given(year, a, b, c, d), plain.given(year, a, b, c, d));
        int u = orAll(aYear());
        due(text("unnamed", u), real.unnamed(u), plain.unnamed(u));
        int what = some(0, 32);
        due(text("about", what), real.about(what), plain.about(what));
    }

    private void askNow() {
        int a = some(0, 2);
        int b = some(0, 1);
        int c = some(0, 1);
        int what = random.nextBoolean() ? some(0, 1) : some(1, 2) * 100 + some(0, plain.s.names.size());
        due(text("now", a, b, c, what), real.now(a, b, c, what), plain.now(a, b, c, what));
        int w = some(0, 1);
        due(text("best", a, b, c, w), real.best(a, b, c, w), plain.best(a, b, c, w));
    }

    private void askNames() {
        int a = aName();
        int b = aName();
        int w = some(0, 4);
        due(text("of", a, w), real.of(a, w), plain.of(a, w));
        due(text("alike", a, b), real.alike(a, b), plain.alike(a, b));
        w = some(0, 3);
        due(text("shape", a, w), real.shape(a, w), plain.shape(a, w));
        w = some(0, 1);
        due(text("shapes", w), real.shapes(w), plain.shapes(w));
        due(text("crossed", a, w), real.crossed(a, w), plain.crossed(a, w));
        int g = random.nextBoolean() ? some(1, 60) : some(1, 5);
        w = some(0, 2);
        due(text("returned", a, g, w), real.returned(a, g, w), plain.returned(a, g, w));
        int p = some(1, 100);
        due(text("age", a, p, w), real.age(a, p, w), plain.age(a, p, w));
        due(text("guess", a), real.guess(a), plain.guess(a));
    }

    private void askYears() {
        int a = aName();
        int y = aYear();
        int w = random.nextBoolean() ? some(0, 1) : some(10, 30);
        due(text("lag", w), real.lag(w), plain.lag(w));
        due(text("together", a, y), real.together(a, y), plain.together(a, y));
        int n = orAll(a);
        int told = random.nextBoolean() ? some(2, 1000000) : some(2, 30);
        due(text("chance", n, y, told), real.chance(n, y, told), plain.chance(n, y, told));
        int k = some(1, 16);
        due(text("turnover", y, k), real.turnover(y, k), plain.turnover(y, k));
        int place = some(0, 2);
        int many = random.nextBoolean() ? some(2, 4) : some(2, 8);
        boolean alike = random.nextBoolean();
        due(text("room", place, y, many, alike), real.room(place, y, many, alike), plain.room(place, y, many, alike));
    }

    private void askBrought() {
        if (purse <= 0) {
            return;
        }
        purse--;
        int a = aName();
        int y = aYear();
        int f = some(0, plain.s.films.size() - 1);
        due(text("took", f, a, y), real.took(f, a, y), plain.took(f, a, y));
        due(text("sound", a, y), real.sound(a, y), plain.sound(a, y));
    }

    /** Rows that a taste would bring, so that some tastes are let. */
    private void print() {
        int year = some(0, 60);
        int place = some(0, 2);
        int sex = some(0, 1);
        int name = aName();
        int n = some(0, 99);
        if (random.nextInt(12) != 0) {
            n = PlainCradles.over(plain.letRuns(), random.nextBoolean() ? Math::max : Math::min, year, place, sex, name);
        }
        due(text("print", year, place, sex, name, n), real.print(year, place, sex, name, n),
                plain.print(year, place, sex, name, n));
    }

    private void askPrinted() {
        if (purse <= 0) {
            return;
        }
        purse--;
        if (random.nextInt(3) == 0) {
            print();
        }
        int year = some(0, 60);
        int t = orAll(some(0, plain.s.tastes.size() - 1));
        int known = some(0, 61);
        due(text("let", t, known), real.let(t, known), plain.let(t, known));
        int a = some(0, 2);
        int b = some(0, 1);
        int c = aName();
        boolean high = random.nextBoolean();
        due(text("span", year, a, b, c, high), real.span(year, a, b, c, high), plain.span(year, a, b, c, high));
        int w = some(0, 3);
        due(text("parts", year, w), real.parts(year, w), plain.parts(year, w));
    }

    private void imageOrBack() {
        if (random.nextInt(5) < 2) {
            due("image()", real.image(), plain.image());
        } else {
            due("back()", real.back(), plain.back());
        }
    }

    private void tellLively() {
        for (int i = 0; i < 12; i++) {
            int n = random.nextInt(3) * random.nextInt(3);
            due("cradles", bit(real.cradles(i / 4, i / 2 % 2, i % 2, n)), bit(plain.cradles(i / 4, i / 2 % 2, i % 2, n)));
        }
        for (int standing = 0; standing < 2; standing++) {
            int taste = plain.s.tastes.isEmpty() ? -1 : random.nextInt(plain.s.tastes.size());
            due("by", bit(real.by(standing, taste)), bit(plain.by(standing, taste)));
        }
        for (int i = random.nextInt(4); i > 0; i--) {
            int name = aName();
            int year = random.nextInt(20);
            int points = 1 + random.nextInt(60);
            due("film", real.film(name, year, points), plain.film(name, year, points));
        }
        due("image()", real.image(), plain.image());
        years();
    }

    private void run() {
        int names = random.nextInt(8) == 0 ? 18 : 1 + random.nextInt(lively ? 12 : 7);
        for (int i = 0; i < names; i++) {
            name();
        }
        for (int i = random.nextInt(8); i > 0; i--) {
            born();
        }
        for (int i = random.nextInt(4) + 1; i > 0; i--) {
            tellTaste();
        }
        for (int i = random.nextInt(10) + 4; i > 0; i--) {
            tell();
        }
        if (lively) {
            tellLively();
        }
        while (calls < 420) {
            switch (random.nextInt(48)) {
                case 0: name(); break;
                case 1: case 2: born(); break;
                case 3: case 4: tellTaste(); break;
                case 5: case 6: case 7: tell(); break;
                case 8: case 9: case 10: case 11: case 12: years(); break;
                case 13: case 14: case 15: case 16: askRows(); break;
                case 17: case 18: case 19: case 20: askNow(); break;
                case 21: case 22: case 23: case 24: case 25: case 26: askNames(); break;
                case 27: case 28: case 29: case 30: case 31: case 32: askYears(); break;
                case 33: case 34: case 35: case 36: case 37: askBrought(); break;
                case 38: case 39: case 40: case 41: case 42: askPrinted(); break;
                case 43: case 44: imageOrBack(); break;
                default: askRows();
            }
        }
    }

    public static void main(String[] args) {
        int runs = args.length > 0 ? Integer.parseInt(args[0]) : 40;
        long first = args.length > 1 ? Long.parseLong(args[1]) : 1;
        for (long seed = first; seed < first + runs && wrong == 0; seed++) {
            new RandomRunsTest(seed).run();
        }
        System.out.println(wrong == 0 ? "all answers are as due" : wrong + " answers are not as due");
        if (wrong != 0) {
            System.exit(1);
        }
    }
}
