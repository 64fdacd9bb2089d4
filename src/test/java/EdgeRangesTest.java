/**
 * Every argument of every promise at the edges of what the document takes: the least and the greatest are
 * answered, one beside them on either side and the furthest numbers are refused.
 */
public final class EdgeRangesTest {
    private static final int NONE = -1;
    private static final Due due = new Due();

    /** One call on an object of its own, by one of its arguments. */
    private interface Call {
        long by(CradleNames x, int v);
    }

    private static long bit(boolean b) {
        return b ? 1 : 0;
    }

    /** Clock 0; names 0 to 2 for girls, boys and both; tastes 0 and 1. */
    private static CradleNames atZero() {
        CradleNames x = new CradleNames();
        x.name(Due.letters("anna"), 1);
        x.name(Due.letters("bruno"), 2);
        x.name(Due.letters("kim"), 3);
        Due.taste(x, "worth long;");
        Due.taste(x, "worth 0-long;");
        return x;
    }

    /** The same at clock 3, with all cradles full and three tastes' worth of rows behind it. */
    private static CradleNames atThree() {
        CradleNames x = atZero();
        for (int i = 0; i < 3; i++) {
            x.born(i, i, 0, 1, 2, 5);
        }
        for (int row = 0; row < 12; row++) {
            x.cradles(row / 4, row / 2 % 2, row % 2, 6);
        }
        x.film(2, 0, 9);
        x.film(0, 1, 9);
        x.by(0, 0);
        x.by(1, 1);
        x.years(1);
        x.by(0, 1);
        x.years(1);
        x.by(0, 0);
        x.years(1);
        return x;
    }

    private static void range(boolean late, String what, int least, int greatest, long refusal, Call call) {
        int[] taken = {least, greatest, least + (greatest - least) / 2};
        for (int v : taken) {
            long got = call.by(late ? atThree() : atZero(), v);
            due.is(what + " of " + v + " (" + got + ") is taken", got != refusal, true);
        }
        int[] refused = {least - 1, greatest + 1, Integer.MIN_VALUE, Integer.MAX_VALUE};
        for (int v : refused) {
            due.is(what + " of " + v, call.by(late ? atThree() : atZero(), v), refusal);
        }
    }

    private static void early(String what, int least, int greatest, long refusal, Call call) {
        range(false, what, least, greatest, refusal, call);
    }

    private static void late(String what, int least, int greatest, long refusal, Call call) {
        range(true, what, least, greatest, refusal, call);
    }

    private static void names() {
        early("2 name: sexes", 1, 3, NONE, (x, v) -> x.name(Due.letters("ole"), v));
        late("3 of: name", 0, 2, NONE, (x, v) -> x.of(v, 0));
        late("3 of: what", 0, 4, NONE, (x, v) -> x.of(2, v));
        late("4 alike: one", 0, 2, NONE, (x, v) -> x.alike(v, 0));
        late("4 alike: other", 0, 2, NONE, (x, v) -> x.alike(0, v));
    }

    private static void telling() {
        early("5 born: name", 0, 2, NONE, (x, v) -> x.born(v, 0, 0, 0, 1, 1));
        early("5 born: place", 0, 2, NONE, (x, v) -> x.born(0, v, 0, 0, 1, 1));
        early("5 born: standing", 0, 1, NONE, (x, v) -> x.born(0, 0, v, 0, 1, 1));
        early("5 born: sex", 0, 1, NONE, (x, v) -> x.born(0, 0, 0, v, 1, 1));
        early("5 born: ago", 1, 40, NONE, (x, v) -> x.born(0, 0, 0, 0, v, 1));
        early("5 born: n", 1, 99, NONE, (x, v) -> x.born(0, 0, 0, 0, 1, v));
        early("6 life", 20, 90, 0, (x, v) -> bit(x.life(v)));
        late("7 cradles: place", 0, 2, 0, (x, v) -> bit(x.cradles(v, 0, 0, 1)));
        late("7 cradles: standing", 0, 1, 0, (x, v) -> bit(x.cradles(0, v, 0, 1)));
        late("7 cradles: sex", 0, 1, 0, (x, v) -> bit(x.cradles(0, 0, v, 1)));
        late("7 cradles: n", 0, 6, 0, (x, v) -> bit(x.cradles(0, 0, 0, v)));
        early("8 list: from at clock 0", 0, 60, NONE, (x, v) -> x.list(v, 1));
        late("8 list: from at clock 3", 3, 60, NONE, (x, v) -> x.list(v, 1));
        late("9 film: name", 0, 2, NONE, (x, v) -> x.film(v, 3, 1));
        early("9 film: year at clock 0", 0, 60, NONE, (x, v) -> x.film(0, v, 1));
        late("9 film: year at clock 3", 3, 60, NONE, (x, v) -> x.film(0, v, 1));
        late("9 film: points", 1, 999, NONE, (x, v) -> x.film(0, 3, v));
    }

    private static int endBehindTwenty(CradleNames x, int n) {
        x.feed(0, 0, 0, 0, 0);
        return x.end(n);
    }

    private static int faultOfNothing(CradleNames x, int what) {
        Due.taste(x, "oh");
        return x.fault(what);
    }

    private static void tastes() {
        late("11 end", 0, 20, NONE, EdgeRangesTest::endBehindTwenty);
        late("13 fault", 0, 1, NONE, EdgeRangesTest::faultOfNothing);
        late("14 by: standing", 0, 1, 0, (x, v) -> bit(x.by(v, 1)));
        late("14 by: taste", NONE, 1, 0, (x, v) -> bit(x.by(0, v)));
    }

    private static void years() {
        early("15 years", 1, 20, NONE, (x, v) -> x.years(v));
        early("16 given: year at clock 0", -40, -1, NONE, (x, v) -> x.given(v, 0, 0, 0, 0));
        late("16 given: year at clock 3", -40, 2, NONE, (x, v) -> x.given(v, 0, 0, 0, 0));
        late("16 given: place", NONE, 2, NONE, (x, v) -> x.given(0, v, 0, 0, 0));
        late("16 given: standing", NONE, 1, NONE, (x, v) -> x.given(0, 0, v, 0, 0));
        late("16 given: sex", NONE, 1, NONE, (x, v) -> x.given(0, 0, 0, v, 0));
        late("16 given: name", NONE, 2, NONE, (x, v) -> x.given(0, 0, 0, 0, v));
        late("17 unnamed", NONE, 2, NONE, (x, v) -> x.unnamed(v));
        int none = -2000000000;
        late("18 now: place", 0, 2, none, (x, v) -> x.now(v, 0, 0, 0));
        late("18 now: standing", 0, 1, none, (x, v) -> x.now(0, v, 0, 0));
        late("18 now: sex", 0, 1, none, (x, v) -> x.now(0, 0, v, 0));
        late("18 now: what", 0, 1, none, (x, v) -> x.now(0, 0, 0, v));
        late("18 now: 100 + name", 100, 102, none, (x, v) -> x.now(0, 0, 0, v));
        late("18 now: 200 + name", 200, 202, none, (x, v) -> x.now(0, 0, 0, v));
    }

    private static void trails() {
        late("19 shape: name", 0, 2, NONE, (x, v) -> x.shape(v, 0));
        late("19 shape: what", 0, 3, NONE, (x, v) -> x.shape(0, v));
        late("20 shapes", 0, 1, NONE, (x, v) -> x.shapes(v));
        late("21 lag", 0, 1, NONE, (x, v) -> x.lag(v));
        late("21 lag: 10 + L at clock 3", 10, 12, NONE, (x, v) -> x.lag(v));
        late("22 together: name", 0, 2, NONE, (x, v) -> x.together(v, 0));
        late("22 together: year", 0, 2, NONE, (x, v) -> x.together(0, v));
        late("23 took: film", 0, 1, -1000, (x, v) -> x.took(v, 0, 0));
        late("23 took: name", 0, 2, -1000, (x, v) -> x.took(0, v, 0));
        late("23 took: year", 0, 2, -1000, (x, v) -> x.took(0, 0, v));
        late("24 sound: name", 0, 2, -1000, (x, v) -> x.sound(v, 0));
        late("24 sound: year", 0, 2, -1000, (x, v) -> x.sound(0, v));
        late("25 crossed: what", 0, 1, NONE, (x, v) -> x.crossed(2, v));
        late("26 returned: gap", 1, 1, NONE, (x, v) -> x.returned(0, v, 0));
        late("26 returned: what", 0, 2, NONE, (x, v) -> x.returned(0, 1, v));
        late("27 room: place", 0, 2, NONE, (x, v) -> x.room(v, 0, 2, false));
        late("27 room: year", 0, 2, NONE, (x, v) -> x.room(0, v, 2, false));
        late("27 room: n", 2, 8, NONE, (x, v) -> x.room(0, 0, v, true));
        late("28 best: place", 0, 2, NONE, (x, v) -> x.best(v, 0, 0, 0));
        late("28 best: standing", 0, 1, NONE, (x, v) -> x.best(0, v, 0, 0));
        late("28 best: sex", 0, 1, NONE, (x, v) -> x.best(0, 0, v, 0));
        late("28 best: what", 0, 1, NONE, (x, v) -> x.best(0, 0, 0, v));
        late("29 age: name", 0, 2, -1000, (x, v) -> x.age(v, 50, 0));
        late("29 age: p", 1, 100, -1000, (x, v) -> x.age(0, v, 0));
        late("29 age: p, for half of them", 1, 100, -1000, (x, v) -> x.age(0, v, 2));
        late("29 age: what", 0, 2, -1000, (x, v) -> x.age(0, 50, v));
        late("30 guess: name", 0, 2, NONE, (x, v) -> x.guess(v));
        late("31 chance: name", NONE, 2, NONE, (x, v) -> x.chance(v, 1, 2));
        late("31 chance: year", 1, 2, NONE, (x, v) -> x.chance(0, v, 2));
        late("31 chance: told", 2, 1000000, NONE, (x, v) -> x.chance(0, 1, v));
        late("32 turnover: year", 0, 2, NONE, (x, v) -> x.turnover(v, 1));
        late("32 turnover: k", 1, 16, NONE, (x, v) -> x.turnover(0, v));
    }

    private static void printed() {
        late("33 print: year", 0, 60, NONE, (x, v) -> x.print(v, 0, 0, 0, 0));
        late("33 print: place", 0, 2, NONE, (x, v) -> x.print(0, v, 0, 0, 0));
        late("33 print: sex", 0, 1, NONE, (x, v) -> x.print(0, 0, v, 0, 0));
        late("33 print: name", 0, 2, NONE, (x, v) -> x.print(0, 0, 0, v, 0));
        late("33 print: n", 0, 99, NONE, (x, v) -> x.print(0, 0, 0, 0, v));
        late("34 let: taste", NONE, 1, NONE, (x, v) -> x.let(v, 0));
        late("34 let: known", 0, 61, NONE, (x, v) -> x.let(0, v));
        late("35 span: year", 0, 60, NONE, (x, v) -> x.span(v, 0, 0, 0, false));
        late("35 span: place", 0, 2, NONE, (x, v) -> x.span(0, v, 0, 0, false));
        late("35 span: sex", 0, 1, NONE, (x, v) -> x.span(0, 0, v, 0, true));
        late("35 span: name", 0, 2, NONE, (x, v) -> x.span(0, 0, 0, v, true));
        late("36 parts: year", 0, 60, NONE, (x, v) -> x.parts(v, 0));
        late("36 parts: what", 0, 3, NONE, (x, v) -> x.parts(0, v));
        late("39 about: counts", 0, 7, NONE, (x, v) -> x.about(v));
        late("39 about: tastes that hold", 10, 11, NONE, (x, v) -> x.about(v));
        late("39 about: cradles", 20, 31, NONE, (x, v) -> x.about(v));
    }

    /** Names, whose ranges the calls above could not tell, as other answers of theirs are NONE too. */
    private static void namesOfTrails() {
        CradleNames x = atThree();
        int[] others = {-1, 3, 15, 16, Integer.MIN_VALUE, Integer.MAX_VALUE};
        for (int v : others) {
            due.is("25 crossed: name " + v, x.crossed(v, 0), NONE);
            due.is("26 returned: name " + v, x.returned(v, 1, 0), NONE);
        }
        int[] gaps = {0, 61, -1, Integer.MIN_VALUE, Integer.MAX_VALUE};
        for (int v : gaps) {
            due.is("26 returned: gap " + v, x.returned(0, v, 0), NONE);
        }
        due.is("25 crossed: the last name", x.crossed(2, 0), 0);
        due.is("26 returned: the last name", x.returned(2, 1, 0) != NONE, true);
    }

    public static void main(String[] args) {
        names();
        telling();
        tastes();
        years();
        trails();
        printed();
        namesOfTrails();
        due.end();
    }
}
