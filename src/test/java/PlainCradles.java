import java.math.BigInteger;
import java.util.ArrayList;
import java.util.Arrays;
import java.util.List;
import java.util.function.IntBinaryOperator;

/**
 * The document said once more in the plainest way, without any thought of speed or room: every answer is
 * counted anew from lists of children. RandomRunsTest holds CradleNames against it.
 */
final class PlainCradles {
    static final int NONE = -1;

    record Name(String letters, int sexes, int told) { }

    record Child(int year, int place, int standing, int sex, int name) { }

    record ListOf(int from, int set) { }

    record Film(int name, int year, int points) { }

    record Row(int year, int place, int sex, int name, int n, int told) { }

    /** Where a word is asked: a name for a cradle, with all children so far. */
    record Spot(List<Child> children, int name, int place, int standing, int sex, int year, Taste taste,
            int withoutFilm, boolean withoutSound) { }

    interface Term {
        long value(Spot spot);
    }

    static final class Taste {
        Term worth = spot -> 0;
        final List<Term> bars = new ArrayList<>();
        int near = 5;
        int past = 50;
    }

    static final class State {
        int clock;
        int life = 60;
        List<Name> names = new ArrayList<>();
        List<Child> children = new ArrayList<>();
        int[] cradles = new int[12];
        int[] held = {NONE, NONE};
        List<int[]> cradlesThen = new ArrayList<>();
        List<int[]> heldThen = new ArrayList<>();
        List<Integer> unnamed = new ArrayList<>();
        List<ListOf> lists = new ArrayList<>();
        List<Film> films = new ArrayList<>();
        List<Taste> tastes = new ArrayList<>();
        List<Row> rows = new ArrayList<>();

        State copy() {
            State s = new State();
            s.clock = clock;
            s.life = life;
            s.names = new ArrayList<>(names);
            s.children = new ArrayList<>(children);
            s.cradles = cradles.clone();
            s.held = held.clone();
            s.cradlesThen = new ArrayList<>(cradlesThen);
            s.heldThen = new ArrayList<>(heldThen);
            s.unnamed = new ArrayList<>(unnamed);
            s.lists = new ArrayList<>(lists);
            s.films = new ArrayList<>(films);
            s.tastes = new ArrayList<>(tastes);
            s.rows = new ArrayList<>(rows);
            return s;
        }
    }

    State s = new State();
    State kept = new State();
    String tape = "";
    int fault = NONE;
    int faultPlace = NONE;

    static boolean in(int v, int a, int b) {
        return a <= v && v <= b;
    }

    // ---- names

    int name(long letters, int sexes) {
        StringBuilder b = new StringBuilder();
        if (letters < 0 || letters >= 1L << 50) {
            return NONE;
        }
        for (long rest = letters; rest > 0; rest /= 32) {
            if (rest % 32 == 0 || rest % 32 > 26) {
                return NONE;
            }
            b.append((char) ('a' + rest % 32 - 1));
        }
        if (b.length() < 2 || !in(sexes, 1, 3) || s.names.size() == 16) {
            return NONE;
        }
        for (Name n : s.names) {
            if (n.letters.equals(b.toString())) {
                return NONE;
            }
        }
        s.names.add(new Name(b.toString(), sexes, s.clock));
        return s.names.size() - 1;
    }

    boolean has(int name) {
        return in(name, 0, s.names.size() - 1);
    }

    static String ending(String letters) {
        String best = letters;
        for (int i = 0; i < letters.length(); i++) {
            if ("aeiouy".indexOf(letters.charAt(i)) >= 0) {
                best = letters.substring(i);
            }
        }
        return best;
    }

    static String sounds(String letters) {
        String[] like = {"bpvf", "dt", "gkcq", "szx", "mn", "iye", "ouw"};
        StringBuilder b = new StringBuilder();
        for (char c : letters.toCharArray()) {
            char sound = c;
            for (String group : like) {
                if (group.indexOf(c) >= 0) {
                    sound = group.charAt(0);
                }
            }
            if (b.length() == 0 || b.charAt(b.length() - 1) != sound) {
                b.append(sound);
            }
        }
        return b.toString();
    }

    static boolean akin(String a, String b) {
        int[][] d = new int[a.length() + 1][b.length() + 1];
        for (int i = 0; i <= a.length(); i++) {
            for (int j = 0; j <= b.length(); j++) {
                if (i == 0 || j == 0) {
                    d[i][j] = i + j;
                } else {
                    int change = d[i - 1][j - 1] + (a.charAt(i - 1) == b.charAt(j - 1) ? 0 : 1);
                    d[i][j] = Math.min(change, Math.min(d[i - 1][j], d[i][j - 1]) + 1);
                }
            }
        }
        return d[a.length()][b.length()] <= 1;
    }

    boolean akin(int one, int other) {
        return akin(sounds(s.names.get(one).letters), sounds(s.names.get(other).letters));
    }

    String ending(int name) {
        return ending(s.names.get(name).letters);
    }

    int of(int name, int what) {
        if (!has(name)) {
            return NONE;
        }
        if (what == 0) {
            return s.names.get(name).letters.length();
        }
        if (what == 1) {
            return s.names.get(name).sexes;
        }
        if (what == 2) {
            int i = 0;
            while (!ending(i).equals(ending(name))) {
                i++;
            }
            return i;
        }
        if (what == 3) {
            return sounds(s.names.get(name).letters).length();
        }
        return what == 4 ? living(name, s.clock - 1) : NONE;
    }

    int alike(int one, int other) {
        return !has(one) || !has(other) ? NONE : akin(one, other) ? 1 : 0;
    }

    // ---- counting children; NONE is all

    static int count(List<Child> children, int from, int to, int place, int standing, int sex, int name) {
        int n = 0;
        for (Child c : children) {
            if (in(c.year, from, to) && (place == NONE || place == c.place)
                    && (standing == NONE || standing == c.standing) && (sex == NONE || sex == c.sex)
                    && (name == NONE || name == c.name)) {
                n++;
            }
        }
        return n;
    }

    int total(int name, int year) {
        return count(s.children, year, year, NONE, NONE, NONE, name);
    }

    int living(int name, int year) {
        return count(s.children, year - s.life + 1, year, NONE, NONE, NONE, name);
    }

    // ---- telling

    int born(int name, int place, int standing, int sex, int ago, int n) {
        if (s.clock != 0 || !has(name) || !in(place, 0, 2) || !in(standing, 0, 1) || !in(sex, 0, 1)
                || !in(ago, 1, 40) || !in(n, 1, 99)) {
            return NONE;
        }
        int all = count(s.children, -ago, -ago, place, standing, sex, name) + n;
        if (all > 9999) {
            return NONE;
        }
        for (int i = 0; i < n; i++) {
            s.children.add(new Child(-ago, place, standing, sex, name));
        }
        return all;
    }

    boolean life(int years) {
        if (s.clock != 0 || !in(years, 20, 90)) {
            return false;
        }
        s.life = years;
        return true;
    }

    boolean cradles(int place, int standing, int sex, int n) {
        if (!in(place, 0, 2) || !in(standing, 0, 1) || !in(sex, 0, 1) || !in(n, 0, 6)) {
            return false;
        }
        s.cradles[place * 4 + standing * 2 + sex] = n;
        return true;
    }

    int list(int from, int names) {
        if (!in(from, s.clock, 60) || s.lists.size() == 8) {
            return NONE;
        }
        int set = 0;
        for (int i = 0; i < s.names.size(); i++) {
            set |= names & 1 << i;
        }
        s.lists.add(new ListOf(from, set));
        return s.lists.size();
    }

    int film(int name, int year, int points) {
        if (!has(name) || !in(year, s.clock, 60) || !in(points, 1, 999) || s.films.size() == 8) {
            return NONE;
        }
        s.films.add(new Film(name, year, points));
        return s.films.size() - 1;
    }

    int feed(int a, int b, int c, int d, int e) {
        if (tape.length() + 20 > 300) {
            return NONE;
        }
        StringBuilder t = new StringBuilder(tape);
        for (int v : new int[] {a, b, c, d, e}) {
            t.append((char) (v >> 24 & 255)).append((char) (v >> 16 & 255));
            t.append((char) (v >> 8 & 255)).append((char) (v & 255));
        }
        tape = t.toString();
        return tape.length();
    }

    int end(int n) {
        if (!in(n, 0, tape.length())) {
            return NONE;
        }
        tape = tape.substring(0, n);
        return n;
    }

    // ---- tastes

    static final class Fault extends RuntimeException {
        private static final long serialVersionUID = 1L;
        final int kind;
        final int place;

        Fault(int kind, int place) {
            this.kind = kind;
            this.place = place;
        }
    }

    record Token(String text, int place) { }

    static final class Parser {
        final List<Token> tokens = new ArrayList<>();
        int at;
        int open;
        Taste taste = new Taste();
        static final List<String> WORDS = List.of("near", "far", "up", "same", "girls", "boys", "old", "all",
                "gone", "rise", "sound", "film", "long", "year");

        Parser(String text) {
            int i = 0;
            while (i < text.length()) {
                String rest = text.substring(i);
                char c = rest.charAt(0);
                if (c == ' ' || c == '\n') {
                    i++;
                    continue;
                }
                int n = 1;
                if (rest.startsWith("<=") || rest.startsWith(">=")) {
                    n = 2;
                } else if (rest.matches("(?s)[a-zA-Z].*")) {
                    n = rest.length() - rest.replaceFirst("^[a-zA-Z]+", "").length();
                } else if (rest.matches("(?s)[0-9].*")) {
                    n = rest.length() - rest.replaceFirst("^[0-9]+", "").length();
                }
                tokens.add(new Token(rest.substring(0, n), i));
                i += n;
            }
            tokens.add(new Token("", text.length()));
        }

        String now() {
            return tokens.get(at).text;
        }

        Fault fail(int kind) {
            return new Fault(kind, tokens.get(at).place);
        }

        boolean take(String text) {
            if (now().equals(text)) {
                at++;
                return true;
            }
            return false;
        }

        void need(String text) {
            if (!take(text)) {
                throw fail(1);
            }
        }

        void open() {
            if (open == 8) {
                throw fail(3);
            }
            open++;
            at++;
        }

        Taste read() {
            List<String> had = new ArrayList<>();
            int clauses = 0;
            while (!now().isEmpty()) {
                String kind = now();
                if (!List.of("worth", "bar", "near", "past").contains(kind)) {
                    throw fail(1);
                }
                if (!kind.equals("bar") && had.contains(kind)) {
                    throw fail(4);
                }
                if (clauses == 12) {
                    throw fail(5);
                }
                had.add(kind);
                clauses++;
                at++;
                if (kind.equals("worth")) {
                    taste.worth = sum();
                } else if (kind.equals("bar")) {
                    taste.bars.add(either());
                } else if (kind.equals("near")) {
                    taste.near = number(1, 20);
                } else {
                    taste.past = number(1, 60);
                }
                need(";");
            }
            return taste;
        }

        int number(int least, int greatest) {
            if (!now().matches("[0-9]+")) {
                throw fail(1);
            }
            BigInteger v = new BigInteger(now());
            if (v.compareTo(BigInteger.valueOf(least)) < 0 || v.compareTo(BigInteger.valueOf(greatest)) > 0) {
                throw fail(2);
            }
            at++;
            return v.intValue();
        }

        Term either() {
            Term left = both();
            while (take("or")) {
                Term a = left;
                Term b = both();
                left = x -> a.value(x) + b.value(x) > 0 ? 1 : 0;
            }
            return left;
        }

        Term both() {
            Term left = ask();
            while (take("and")) {
                Term a = left;
                Term b = ask();
                left = x -> a.value(x) * b.value(x);
            }
            return left;
        }

        Term ask() {
            if (now().equals("not")) {
                open();
                Term a = ask();
                open--;
                return x -> a.value(x) == 0 ? 1 : 0;
            }
            Term a = sum();
            String sign = now();
            if (!List.of("<", "<=", ">", ">=", "=", "#").contains(sign)) {
                throw fail(1);
            }
            at++;
            Term b = sum();
            return x -> holds(a.value(x), sign, b.value(x)) ? 1 : 0;
        }

        static boolean holds(long a, String sign, long b) {
            return switch (sign) {
                case "<" -> a < b;
                case "<=" -> a <= b;
                case ">" -> a > b;
                case ">=" -> a >= b;
                case "=" -> a == b;
                default -> a != b;
            };
        }

        static long bound(long v) {
            return Math.max(-1000000000L, Math.min(1000000000L, v));
        }

        Term sum() {
            Term left = product();
            while (now().equals("+") || now().equals("-")) {
                boolean plus = now().equals("+");
                at++;
                Term a = left;
                Term b = product();
                left = x -> bound(plus ? a.value(x) + b.value(x) : a.value(x) - b.value(x));
            }
            return left;
        }

        Term product() {
            Term left = one();
            while (now().equals("*") || now().equals("/")) {
                boolean times = now().equals("*");
                at++;
                Term a = left;
                Term b = one();
                left = x -> {
                    long p = a.value(x);
                    long q = b.value(x);
                    return bound(times ? p * q : q == 0 ? 0 : p / q);
                };
            }
            return left;
        }

        Term one() {
            String t = now();
            if (t.matches("[0-9]+")) {
                int n = number(0, 9999);
                return x -> n;
            }
            if (WORDS.contains(t)) {
                at++;
                return x -> owner.word(t, x);
            }
            if (t.equals("(")) {
                open();
                Term a = sum();
                need(")");
                open--;
                return a;
            }
            if (t.equals("-")) {
                open();
                Term a = one();
                open--;
                return x -> bound(-a.value(x));
            }
            if (t.equals("min") || t.equals("max")) {
                at++;
                if (!now().equals("(")) {
                    throw fail(1);
                }
                open();
                Term a = sum();
                need(",");
                Term b = sum();
                need(")");
                open--;
                return x -> t.equals("min") ? Math.min(a.value(x), b.value(x)) : Math.max(a.value(x), b.value(x));
            }
            throw fail(1);
        }

        PlainCradles owner;
    }

    int taste() {
        if (s.tastes.size() == 6) {
            return NONE;
        }
        String text = tape;
        tape = "";
        fault = 0;
        faultPlace = NONE;
        try {
            Parser p = new Parser(text);
            p.owner = this;
            s.tastes.add(p.read());
        } catch (Fault f) {
            fault = f.kind;
            faultPlace = f.place;
            return NONE;
        }
        return s.tastes.size() - 1;
    }

    int fault(int what) {
        return what == 0 ? fault : what == 1 ? faultPlace : NONE;
    }

    long word(String word, Spot x) {
        int y = x.year;
        int from = y - x.taste.near + 1;
        int born = y - s.life + 1;
        List<Child> all = x.children;
        switch (word) {
            case "near": return count(all, from, y, x.place, NONE, NONE, x.name);
            case "far": {
                int n = 0;
                for (int p = 0; p < 3; p++) {
                    n += p == x.place ? 0 : count(all, from, y, p, NONE, NONE, x.name);
                }
                return n;
            }
            case "up": return x.standing == 1 ? count(all, from, y, NONE, 0, NONE, x.name) : 0;
            case "same": return count(all, from, y, NONE, x.standing, NONE, x.name);
            case "girls": return count(all, born, y, NONE, NONE, 0, x.name);
            case "boys": return count(all, born, y, NONE, NONE, 1, x.name);
            case "all": return count(all, born, y, NONE, NONE, NONE, x.name);
            case "old": {
                int n = 0;
                for (int b = born; b <= y; b++) {
                    n += y - b >= x.taste.past ? count(all, b, b, NONE, NONE, NONE, x.name) : 0;
                }
                return n;
            }
            case "gone": {
                for (int g = 0; g < 99; g++) {
                    if (count(all, y - g, y - g, NONE, NONE, NONE, x.name) > 0) {
                        return g;
                    }
                }
                return 99;
            }
            case "rise": return count(all, y - 1, y - 1, NONE, NONE, NONE, x.name)
                    - count(all, y - 2, y - 2, NONE, NONE, NONE, x.name);
            case "sound": {
                int n = 0;
                for (int i = 0; i < s.names.size(); i++) {
                    if (i != x.name && ending(i).equals(ending(x.name))) {
                        n += count(all, y - 1, y - 1, NONE, NONE, NONE, i);
                    }
                }
                return x.withoutSound ? 0 : n;
            }
            case "film": {
                int n = 0;
                for (int i = 0; i < s.films.size(); i++) {
                    Film f = s.films.get(i);
                    if (i != x.withoutFilm && f.name == x.name && f.year <= y) {
                        n += (int) (f.points / Math.pow(2, y - f.year));
                    }
                }
                return n;
            }
            case "long": return s.names.get(x.name).letters.length();
            default: return y;
        }
    }

    boolean by(int standing, int taste) {
        if (!in(standing, 0, 1) || !in(taste, NONE, s.tastes.size() - 1)) {
            return false;
        }
        s.held[standing] = taste;
        return true;
    }

    // ---- years

    boolean may(Spot x) {
        Name n = s.names.get(x.name);
        if (n.told > x.year || (n.sexes & (x.sex == 0 ? 1 : 2)) == 0) {
            return false;
        }
        int set = 0;
        for (ListOf l : s.lists) {
            if (l.from <= x.year) {
                set = l.set;
            }
        }
        if (set != 0 && (set & 1 << x.name) == 0) {
            return false;
        }
        for (Term bar : x.taste.bars) {
            if (bar.value(x) != 0) {
                return false;
            }
        }
        return true;
    }

    int choose(List<Child> all, int place, int standing, int sex, int year, Taste t, int noFilm, boolean noSound) {
        int best = NONE;
        long worth = 0;
        for (int i = 0; i < s.names.size(); i++) {
            Spot x = new Spot(all, i, place, standing, sex, year, t, noFilm, noSound);
            if (may(x) && (best == NONE || t.worth.value(x) > worth)) {
                best = i;
                worth = t.worth.value(x);
            }
        }
        return best;
    }

    int pass(List<Child> all, int year, int[] cradles, int[] held, int noFilm, boolean noSound) {
        int unnamed = 0;
        for (int row = 0; row < 12; row++) {
            for (int i = 0; i < cradles[row]; i++) {
                int standing = row / 2 % 2;
                int pick = held[standing] == NONE ? NONE
                        : choose(all, row / 4, standing, row % 2, year, s.tastes.get(held[standing]), noFilm, noSound);
                if (pick == NONE) {
                    unnamed++;
                } else {
                    all.add(new Child(year, row / 4, standing, row % 2, pick));
                }
            }
        }
        return unnamed;
    }

    int years(int n) {
        if (!in(n, 1, 20) || s.clock + n > 61) {
            return NONE;
        }
        for (int i = 0; i < n; i++) {
            s.unnamed.add(pass(s.children, s.clock, s.cradles, s.held, NONE, false));
            s.cradlesThen.add(s.cradles.clone());
            s.heldThen.add(s.held.clone());
            s.clock++;
        }
        return s.clock;
    }

    List<Child> told() {
        List<Child> all = new ArrayList<>();
        for (Child c : s.children) {
            if (c.year < 0) {
                all.add(c);
            }
        }
        return all;
    }

    List<Child> runWithout(int film, boolean sound) {
        List<Child> all = told();
        for (int y = 0; y < s.clock; y++) {
            pass(all, y, s.cradlesThen.get(y), s.heldThen.get(y), film, sound);
        }
        return all;
    }

    List<Child> runBy(int taste) {
        List<Child> all = told();
        for (int y = 0; y <= 60; y++) {
            pass(all, y, y < s.clock ? s.cradlesThen.get(y) : s.cradles, new int[] {taste, taste}, NONE, false);
        }
        return all;
    }

    int given(int year, int place, int standing, int sex, int name) {
        if (!in(year, -40, s.clock - 1) || !in(place, -1, 2) || !in(standing, -1, 1) || !in(sex, -1, 1)
                || !(name == NONE || has(name))) {
            return NONE;
        }
        return count(s.children, year, year, place, standing, sex, name);
    }

    boolean gone(int year) {
        return in(year, 0, s.clock - 1);
    }

    int unnamed(int year) {
        if (year == NONE) {
            return s.unnamed.stream().mapToInt(i -> i).sum();
        }
        return gone(year) ? s.unnamed.get(year) : NONE;
    }

    int now(int place, int standing, int sex, int what) {
        int none = -2000000000;
        if (!in(place, 0, 2) || !in(standing, 0, 1) || !in(sex, 0, 1) || s.clock == 61 || s.held[standing] == NONE) {
            return none;
        }
        Taste t = s.tastes.get(s.held[standing]);
        int pick = choose(s.children, place, standing, sex, s.clock, t, NONE, false);
        int name = what == 1 ? pick : what % 100;
        if (what == 0) {
            return pick;
        }
        if (!(what == 1 || in(what, 100, 115) || in(what, 200, 215)) || !has(name)) {
            return none;
        }
        Spot x = new Spot(s.children, name, place, standing, sex, s.clock, t, NONE, false);
        return what >= 200 ? (may(x) ? 1 : 0) : (int) t.worth.value(x);
    }

    // ---- what years tell

    int shape(int name, int what) {
        if (!has(name) || !in(what, 0, 3)) {
            return NONE;
        }
        int peak = NONE;
        for (int y = s.clock - 1; y >= 0; y--) {
            if (total(name, y) > 0 && (peak == NONE || total(name, y) >= total(name, peak))) {
                peak = y;
            }
        }
        if (what == 0 || peak == NONE) {
            return peak;
        }
        int most = total(name, peak);
        int rise = 0;
        while (peak - rise - 1 >= 0 && 2 * total(name, peak - rise - 1) >= most) {
            rise++;
        }
        int fall = 0;
        while (peak + fall + 1 < s.clock && 2 * total(name, peak + fall + 1) >= most) {
            fall++;
        }
        return what == 1 ? most : what == 2 ? rise : fall;
    }

    int shapes(int what) {
        if (!in(what, 0, 1)) {
            return NONE;
        }
        int n = 0;
        for (int i = 0; i < s.names.size(); i++) {
            for (int j = 0; j < s.names.size(); j++) {
                if (shape(i, 0) != NONE && shape(j, 0) != NONE && shape(i, 2) > shape(j, 2)) {
                    boolean both = shape(i, 3) > shape(j, 3);
                    boolean cross = shape(i, 3) < shape(j, 3);
                    n += what == 0 && both || what == 1 && cross ? 1 : 0;
                }
            }
        }
        return n;
    }

    int thousandths(int name, int standing, int year) {
        int all = count(s.children, year, year, NONE, standing, NONE, NONE);
        return all == 0 ? 0 : 1000 * count(s.children, year, year, NONE, standing, NONE, name) / all;
    }

    int lagBy(int lag) {
        int apart = 0;
        int years = 0;
        for (int y = 0; y + lag < s.clock; y++) {
            years++;
            for (int i = 0; i < s.names.size(); i++) {
                apart += Math.abs(thousandths(i, 0, y) - thousandths(i, 1, y + lag));
            }
        }
        return years == 0 ? NONE : apart / years;
    }

    int lag(int what) {
        if (s.clock == 0) {
            return NONE;
        }
        if (in(what, 10, 30)) {
            return lagBy(what - 10);
        }
        int best = 0;
        for (int lag = 1; lag <= 20; lag++) {
            if (lagBy(lag) != NONE && lagBy(lag) < lagBy(best)) {
                best = lag;
            }
        }
        return what == 0 ? best : what == 1 ? lagBy(best) : NONE;
    }

    int together(int name, int year) {
        if (!has(name) || !gone(year)) {
            return NONE;
        }
        int n = 0;
        for (int i = 0; i < s.names.size(); i++) {
            n += ending(i).equals(ending(name)) && total(i, year) > total(i, year - 1) ? 1 : 0;
        }
        return n;
    }

    int took(int film, int name, int year) {
        if (!in(film, 0, s.films.size() - 1) || !has(name) || !gone(year)) {
            return -1000;
        }
        return total(name, year) - count(runWithout(film, false), year, year, NONE, NONE, NONE, name);
    }

    int sound(int name, int year) {
        if (!has(name) || !gone(year)) {
            return -1000;
        }
        return total(name, year) - count(runWithout(NONE, true), year, year, NONE, NONE, NONE, name);
    }

    int toSex(int name, int year, int sex) {
        return count(s.children, year, year, NONE, NONE, sex, name);
    }

    int crossed(int name, int what) {
        if (!has(name) || !in(what, 0, 1)) {
            return NONE;
        }
        for (int y = 0; y < s.clock; y++) {
            boolean ahead = false;
            for (int z = -40; z < y; z++) {
                ahead |= toSex(name, z, 1) > toSex(name, z, 0);
            }
            if (ahead && total(name, y) > 0 && toSex(name, y, 0) >= toSex(name, y, 1)) {
                boolean back = false;
                for (int z = y + 1; z < s.clock; z++) {
                    back |= toSex(name, z, 1) > toSex(name, z, 0);
                }
                return what == 0 ? y : back ? 1 : 0;
            }
        }
        return NONE;
    }

    int returned(int name, int gap, int what) {
        if (!has(name) || !in(gap, 1, 60) || !in(what, 0, 2)) {
            return NONE;
        }
        for (int y = 0; y < s.clock; y++) {
            if (total(name, y) > 0 && count(s.children, y - gap, y - 1, NONE, NONE, NONE, name) == 0
                    && count(s.children, -40, y - gap - 1, NONE, NONE, NONE, name) > 0) {
                int empty = 0;
                while (total(name, y - empty - 1) == 0) {
                    empty++;
                }
                return what == 0 ? y : what == 1 ? empty : living(name, y - 1);
            }
        }
        return NONE;
    }

    int room(int place, int year, int n, boolean alike) {
        if (!in(place, 0, 2) || !gone(year) || !in(n, 2, 8)) {
            return NONE;
        }
        List<Integer> kids = new ArrayList<>();
        for (Child c : s.children) {
            if (c.year == year && c.place == place) {
                kids.add(c.name);
            }
        }
        if (kids.size() < n) {
            return NONE;
        }
        long[] found = new long[2];
        choose(kids, 0, new ArrayList<>(), n, alike, found);
        return (int) (found[1] * 1000000 / (found[0] + found[1]));
    }

    void choose(List<Integer> kids, int at, List<Integer> chosen, int n, boolean alike, long[] found) {
        if (chosen.size() == n) {
            boolean shared = false;
            for (int i = 0; i < n; i++) {
                for (int j = 0; j < i; j++) {
                    int a = chosen.get(i);
                    int b = chosen.get(j);
                    shared |= a == b || alike && akin(a, b);
                }
            }
            found[shared ? 1 : 0]++;
            return;
        }
        if (kids.size() - at < n - chosen.size()) {
            return;
        }
        choose(kids, at + 1, chosen, n, alike, found);
        chosen.add(kids.get(at));
        choose(kids, at + 1, chosen, n, alike, found);
        chosen.remove(chosen.size() - 1);
    }

    int best(int place, int standing, int sex, int what) {
        if (!in(place, 0, 2) || !in(standing, 0, 1) || !in(sex, 0, 1) || !in(what, 0, 1) || !in(s.clock, 1, 60)
                || s.held[standing] == NONE) {
            return NONE;
        }
        Taste t = s.tastes.get(s.held[standing]);
        int best = NONE;
        int fewest = 0;
        long worth = 0;
        for (int i = 0; i < s.names.size(); i++) {
            Spot x = new Spot(s.children, i, place, standing, sex, s.clock, t, NONE, false);
            if (may(x)) {
                int n = 0;
                for (int j = 0; j < s.names.size(); j++) {
                    n += i == j || akin(i, j) ? count(s.children, s.clock - 1, s.clock - 1, place, NONE, NONE, j) : 0;
                }
                long w = t.worth.value(x);
                if (best == NONE || n < fewest || n == fewest && w > worth) {
                    best = i;
                    fewest = n;
                    worth = w;
                }
            }
        }
        return best == NONE || what == 0 ? best : fewest;
    }

    int age(int name, int p, int what) {
        if (!has(name) || !in(p, 1, 100) || !in(what, 0, 2)) {
            return -1000;
        }
        int last = s.clock - 1;
        int first = last - s.life + 1;
        int all = living(name, last);
        if (all == 0) {
            return -1000;
        }
        if (what == 2) {
            int y = first;
            while (2 * count(s.children, first, y, NONE, NONE, NONE, name) < all) {
                y++;
            }
            return y;
        }
        int bestFrom = 0;
        int bestTo = 10000;
        for (int a = first; a <= last; a++) {
            for (int b = a; b <= last; b++) {
                if (100 * count(s.children, a, b, NONE, NONE, NONE, name) >= p * all && b - a < bestTo - bestFrom) {
                    bestFrom = a;
                    bestTo = b;
                }
            }
        }
        return what == 0 ? bestFrom : bestTo;
    }

    int guess(int name) {
        if (!has(name)) {
            return NONE;
        }
        int last = s.clock - 1;
        int first = last - s.life + 1;
        int best = NONE;
        BigInteger part = BigInteger.ZERO;
        BigInteger whole = BigInteger.ONE;
        for (int p = 0; p < 3; p++) {
            BigInteger here = BigInteger.valueOf(count(s.children, first, last, p, NONE, NONE, name));
            BigInteger all = BigInteger.valueOf(count(s.children, first, last, p, NONE, NONE, NONE));
            if (here.signum() > 0 && here.multiply(whole).compareTo(part.multiply(all)) > 0) {
                best = p;
                part = here;
                whole = all;
            }
        }
        return best;
    }

    int chance(int name, int year, int told) {
        if (!(name == NONE || has(name)) || !in(year, 1, s.clock - 1) || !in(told, 2, 1000000)
                || total(NONE, year) == 0 || total(NONE, year - 1) == 0) {
            return NONE;
        }
        if (name == NONE) {
            int n = 0;
            for (int i = 0; i < s.names.size(); i++) {
                n += chance(i, year, told) != 0 ? 1 : 0;
            }
            return n;
        }
        int n = total(NONE, year);
        int all = total(NONE, year - 1);
        int with = total(name, year - 1);
        int came = total(name, year);
        BigInteger[] ways = new BigInteger[n + 1];
        Arrays.fill(ways, BigInteger.ZERO);
        ways[0] = BigInteger.ONE;
        for (int child = 0; child < n; child++) {
            for (int k = n; k >= 0; k--) {
                BigInteger next = ways[k].multiply(BigInteger.valueOf(all - with));
                if (k > 0) {
                    next = next.add(ways[k - 1].multiply(BigInteger.valueOf(with)));
                }
                ways[k] = next;
            }
        }
        BigInteger above = BigInteger.ZERO;
        BigInteger below = BigInteger.ZERO;
        for (int k = 0; k <= n; k++) {
            above = k >= came ? above.add(ways[k]) : above;
            below = k <= came ? below.add(ways[k]) : below;
        }
        BigInteger whole = BigInteger.valueOf(all).pow(n);
        BigInteger in = BigInteger.valueOf(told);
        return above.multiply(in).compareTo(whole) <= 0 ? 1 : below.multiply(in).compareTo(whole) <= 0 ? 2 : 0;
    }

    List<Integer> most(int year, int k) {
        List<Integer> order = new ArrayList<>();
        for (int i = 0; i < s.names.size(); i++) {
            if (total(i, year) > 0) {
                order.add(i);
            }
        }
        order.sort((a, b) -> total(a, year) != total(b, year) ? total(b, year) - total(a, year) : a - b);
        return order.subList(0, Math.min(k, order.size()));
    }

    int turnover(int year, int k) {
        if (!gone(year) || !in(k, 1, 16)) {
            return NONE;
        }
        List<Integer> ahead = most(year - 1, k);
        int n = 0;
        for (int i : most(year, k)) {
            n += ahead.contains(i) ? 0 : 1;
        }
        return n;
    }

    // ---- printed rows

    boolean printable(int year, int place, int sex, int name) {
        return in(year, 0, 60) && in(place, 0, 2) && in(sex, 0, 1) && has(name);
    }

    int print(int year, int place, int sex, int name, int n) {
        if (!printable(year, place, sex, name) || !in(n, 0, 99) || s.rows.size() == 150) {
            return NONE;
        }
        s.rows.add(new Row(year, place, sex, name, n, s.clock));
        return s.rows.size();
    }

    boolean isLet(List<Child> run, int known) {
        for (Row r : s.rows) {
            if (r.told <= known && count(run, r.year, r.year, r.place, NONE, r.sex, r.name) != r.n) {
                return false;
            }
        }
        return true;
    }

    int let(int taste, int known) {
        if (!(taste == NONE || in(taste, 0, s.tastes.size() - 1)) || !in(known, 0, 61)) {
            return NONE;
        }
        int n = 0;
        for (int i = 0; i < s.tastes.size(); i++) {
            if (taste == NONE || taste == i) {
                n += isLet(runBy(i), known) ? 1 : 0;
            }
        }
        return n;
    }

    List<List<Child>> letRuns() {
        List<List<Child>> runs = new ArrayList<>();
        for (int i = 0; i < s.tastes.size(); i++) {
            List<Child> run = runBy(i);
            if (isLet(run, s.clock)) {
                runs.add(run);
            }
        }
        return runs;
    }

    static int over(List<List<Child>> runs, IntBinaryOperator pick, int year, int place, int sex, int name) {
        int found = NONE;
        for (List<Child> run : runs) {
            int n = count(run, year, year, place, NONE, sex, name);
            found = found == NONE ? n : pick.applyAsInt(found, n);
        }
        return found;
    }

    int span(int year, int place, int sex, int name, boolean high) {
        if (!printable(year, place, sex, name)) {
            return NONE;
        }
        return over(letRuns(), high ? Math::max : Math::min, year, place, sex, name);
    }

    int parts(int year, int what) {
        if (!in(year, 0, 60) || !in(what, 0, 3)) {
            return NONE;
        }
        List<List<Child>> runs = letRuns();
        int[] best = {NONE, NONE, NONE, 0};
        for (int p = 0; p < 3; p++) {
            for (int x = 0; x < 2; x++) {
                for (int i = 0; i < s.names.size(); i++) {
                    int far = over(runs, Math::max, year, p, x, i) - over(runs, Math::min, year, p, x, i);
                    if (far > best[3]) {
                        best = new int[] {p, x, i, far};
                    }
                }
            }
        }
        return best[3] == 0 ? NONE : best[what];
    }

    // ---- image

    int image() {
        kept = s.copy();
        return s.clock;
    }

    int back() {
        s = kept.copy();
        return s.clock;
    }

    int about(int what) {
        switch (what) {
            case 0: return s.clock;
            case 1: return s.names.size();
            case 2: return s.lists.size();
            case 3: return s.films.size();
            case 4: return s.tastes.size();
            case 5: return s.rows.size();
            case 6: return tape.length();
            case 7: return s.life;
            case 10: return s.held[0];
            case 11: return s.held[1];
            default: return in(what, 20, 31) ? s.cradles[what - 20] : NONE;
        }
    }
}
