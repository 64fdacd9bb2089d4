/** Promises 15 to 18: years, given, unnamed, now. */
public final class YearsTest {
    private static final Due due = new Due();

    private static CradleNames two(String taste) {
        CradleNames x = new CradleNames();
        x.name(Due.letters("ab"), 3);
        x.name(Due.letters("cd"), 3);
        Due.taste(x, taste);
        x.by(0, 0);
        x.by(1, 0);
        return x;
    }

    private static void clock() {
        CradleNames x = two("");
        due.is("years(0)", x.years(0), -1);
        due.is("years(-1)", x.years(-1), -1);
        due.is("years(21)", x.years(21), -1);
        due.is("years(max)", x.years(Integer.MAX_VALUE), -1);
        due.is("nothing went by", x.about(0), 0);
        due.is("years(1)", x.years(1), 1);
        due.is("years(20)", x.years(20), 21);
        due.is("years(20)", x.years(20), 41);
        due.is("years(20)", x.years(20), 61);
        due.is("beyond 61", x.years(1), -1);
        CradleNames y = two("");
        y.years(20);
        y.years(20);
        y.years(2);
        due.is("42 + 20", y.years(20), -1);
        due.is("still 42", y.about(0), 42);
        due.is("42 + 19", y.years(19), 61);
        due.is("cradles at 61", y.cradles(0, 0, 0, 1), true);
        due.is("by at 61", y.by(0, -1), true);
        due.is("a name at 61", y.name(Due.letters("ef"), 1), 2);
    }

    private static void order() {
        CradleNames x = two("worth -all;");
        x.cradles(2, 0, 0, 1);
        x.cradles(1, 1, 1, 1);
        x.years(1);
        due.is("place by place", x.given(0, 1, 1, 1, 0), 1);
        due.is("the later place", x.given(0, 2, 0, 0, 1), 1);
        x = two("worth -all;");
        x.cradles(0, 1, 0, 1);
        x.cradles(0, 0, 1, 1);
        x.years(1);
        due.is("standing by standing", x.given(0, 0, 0, 1, 0), 1);
        due.is("the later standing", x.given(0, 0, 1, 0, 1), 1);
        x = two("worth -all;");
        x.cradles(0, 0, 1, 1);
        x.cradles(0, 0, 0, 1);
        x.years(1);
        due.is("sex by sex", x.given(0, 0, 0, 0, 0), 1);
        due.is("the later sex", x.given(0, 0, 0, 1, 1), 1);
        x = two("worth -all;");
        x.cradles(0, 0, 1, 5);
        x.years(1);
        due.is("cradle by cradle, first", x.given(0, 0, 0, 1, 0), 3);
        due.is("cradle by cradle, second", x.given(0, 0, 0, 1, 1), 2);
        x = two("worth long+all;");
        x.cradles(0, 0, 1, 5);
        x.years(1);
        due.is("of like ones the lowest", x.given(0, 0, 0, 1, 0), 5);
        x = two("worth -rise;");
        x.cradles(0, 0, 0, 3);
        x.years(1);
        due.is("this year is no rise", x.given(0, 0, 0, 0, 0), 3);
        x = new CradleNames();
        x.name(Due.letters("ida"), 1);
        x.name(Due.letters("eva"), 1);
        Due.taste(x, "worth sound;");
        x.by(0, 0);
        x.cradles(0, 0, 0, 3);
        x.years(1);
        due.is("this year has no sound", x.given(0, 0, 0, 0, 0), 3);
        x.years(1);
        due.is("the year ahead has", x.given(1, 0, 0, 0, 1), 3);
    }

    private static void barsWithinYear() {
        CradleNames x = two("worth 5-long;bar near >= 2;");
        x.cradles(0, 0, 0, 6);
        x.cradles(1, 0, 0, 1);
        x.years(1);
        due.is("two at most", x.given(0, 0, 0, 0, 0), 2);
        due.is("two of the other", x.given(0, 0, 0, 0, 1), 2);
        due.is("two stay unnamed", x.unnamed(0), 2);
        due.is("another place", x.given(0, 1, 0, 0, 0), 1);
        x.years(2);
        due.is("all named ones are near", x.unnamed(1), 6);
        due.is("in all", x.unnamed(-1), 14);
        x.years(3);
        due.is("five years on", x.given(5, 0, 0, 0, -1), 4);
    }

    private static void sexesAndTold() {
        CradleNames x = new CradleNames();
        x.name(Due.letters("ab"), 2);
        Due.taste(x, "worth long;");
        x.by(0, 0);
        x.cradles(0, 0, 0, 1);
        x.cradles(0, 0, 1, 1);
        x.cradles(0, 1, 1, 2);
        x.years(1);
        due.is("a boys' name", x.given(0, -1, -1, 1, 0), 1);
        due.is("no girls' name, no taste below", x.unnamed(0), 3);
        x.name(Due.letters("abcd"), 1);
        x.name(Due.letters("abc"), 3);
        x.years(1);
        due.is("the longer for a boy", x.given(1, 0, 0, 1, 2), 1);
        due.is("the longest for a girl", x.given(1, 0, 0, 0, 1), 1);
        due.is("a name told later was none", x.given(0, -1, -1, -1, 2), 0);
    }

    private static void given() {
        CradleNames x = two("worth -all;");
        x.born(0, 1, 0, 1, 40, 5);
        x.born(1, 1, 1, 1, 40, 7);
        x.cradles(2, 1, 0, 3);
        due.is("-40", x.given(-40, -1, -1, -1, -1), 12);
        due.is("-40 of a standing", x.given(-40, -1, 1, -1, -1), 7);
        due.is("-40 of a place", x.given(-40, 1, -1, -1, -1), 12);
        due.is("-40 of another place", x.given(-40, 0, -1, -1, -1), 0);
        due.is("-40 of a sex", x.given(-40, -1, -1, 0, -1), 0);
        due.is("-40 of a name", x.given(-40, -1, -1, -1, 0), 5);
        due.is("-41", x.given(-41, -1, -1, -1, -1), -1);
        due.is("0 has not gone by", x.given(0, -1, -1, -1, -1), -1);
        x.years(1);
        due.is("0 has", x.given(0, -1, -1, -1, -1), 3);
        due.is("0 of a row", x.given(0, 2, 1, 0, 0), 3);
        due.is("0 of the other name", x.given(0, 2, 1, 0, 1), 0);
        due.is("1 has not", x.given(1, -1, -1, -1, -1), -1);
        due.is("place 3", x.given(0, 3, -1, -1, -1), -1);
        due.is("place -2", x.given(0, -2, -1, -1, -1), -1);
        due.is("standing 2", x.given(0, -1, 2, -1, -1), -1);
        due.is("sex 2", x.given(0, -1, -1, 2, -1), -1);
        due.is("name 2", x.given(0, -1, -1, -1, 2), -1);
        due.is("name -2", x.given(0, -1, -1, -1, -2), -1);
    }

    private static void unnamed() {
        CradleNames x = new CradleNames();
        due.is("none went by, in all", x.unnamed(-1), 0);
        due.is("0 has not gone by", x.unnamed(0), -1);
        x.cradles(0, 0, 0, 6);
        x.years(1);
        x.cradles(0, 0, 0, 2);
        x.years(1);
        due.is("year 0", x.unnamed(0), 6);
        due.is("year 1", x.unnamed(1), 2);
        due.is("year 2", x.unnamed(2), -1);
        due.is("year -2", x.unnamed(-2), -1);
        due.is("in all", x.unnamed(-1), 8);
    }

    private static void now() {
        int none = -2000000000;
        CradleNames x = new CradleNames();
        x.name(Due.letters("ab"), 1);
        x.name(Due.letters("abc"), 1);
        x.name(Due.letters("abcd"), 2);
        Due.taste(x, "worth 0-long;bar long=2;");
        due.is("without a taste", x.now(0, 0, 0, 0), none);
        x.by(0, 0);
        due.is("without one below", x.now(0, 1, 0, 0), none);
        due.is("a girl's", x.now(0, 0, 0, 0), 1);
        due.is("its worth", x.now(0, 0, 0, 1), -3);
        due.is("a boy's", x.now(2, 0, 1, 0), 2);
        due.is("worth of 0", x.now(0, 0, 0, 100), -2);
        due.is("worth of 2", x.now(0, 0, 0, 102), -4);
        due.is("0 is barred", x.now(0, 0, 0, 200), 0);
        due.is("1 may", x.now(0, 0, 0, 201), 1);
        due.is("2 is for boys", x.now(0, 0, 0, 202), 0);
        due.is("103", x.now(0, 0, 0, 103), none);
        due.is("203", x.now(0, 0, 0, 203), none);
        due.is("99", x.now(0, 0, 0, 99), none);
        due.is("2", x.now(0, 0, 0, 2), none);
        due.is("-1", x.now(0, 0, 0, -1), none);
        due.is("300", x.now(0, 0, 0, 300), none);
        due.is("place 3", x.now(3, 0, 0, 0), none);
        due.is("standing 2", x.now(0, 2, 0, 0), none);
        due.is("standing -1", x.now(0, -1, 0, 0), none);
        due.is("sex 2", x.now(0, 0, 2, 0), none);
        x.list(0, 1);
        due.is("none may: no name", x.now(0, 0, 0, 0), -1);
        due.is("none may: no worth", x.now(0, 0, 0, 1), none);
        x.years(20);
        x.years(20);
        x.years(20);
        due.is("at 60", x.now(0, 0, 0, 101), -3);
        x.years(1);
        due.is("at 61", x.now(0, 0, 0, 101), none);
        due.is("at 61", x.now(0, 0, 0, 0), none);
    }

    public static void main(String[] args) {
        clock();
        order();
        barsWithinYear();
        sexesAndTold();
        given();
        unnamed();
        now();
        due.end();
    }
}
