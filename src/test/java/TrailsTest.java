/** Promises 19 to 22, 25, 26, 29, 30 and 32: what the years that went by tell. */
public final class TrailsTest {
    private static final Due due = new Due();

    /** The names of two letters to seven, none of the ending of another but the first two. */
    private static CradleNames pickers() {
        return Due.pickers("la", "bra", "lore", "simon", "gilbur", "kastrit");
    }

    private static void shape() {
        CradleNames x = pickers();
        x.born(0, 0, 0, 0, 1, 50);
        due.is("no year went by", x.shape(0, 0), -1);
        int[] n = {1, 2, 4, 3, 2, 1};
        int[] first = {3, 3, 3, 0, 0, 0};
        int[] then = {0, 0, 0, 2, 4, 4};
        for (int y = 0; y < 6; y++) {
            x.cradles(0, 0, 0, n[y]);
            x.cradles(2, 1, 1, first[y] + then[y]);
            Due.year(x, 0, y < 3 ? 1 : 2);
        }
        due.is("peak", x.shape(0, 0), 2);
        due.is("given then", x.shape(0, 1), 4);
        due.is("rise", x.shape(0, 2), 1);
        due.is("fall", x.shape(0, 3), 2);
        due.is("the first of like ones", x.shape(1, 0), 0);
        due.is("none below 0", x.shape(1, 2), 0);
        due.is("fall", x.shape(1, 3), 2);
        due.is("peak of 2", x.shape(2, 0), 4);
        due.is("rise of 2", x.shape(2, 2), 1);
        due.is("fall to the year gone by last", x.shape(2, 3), 1);
        due.is("never given", x.shape(3, 0), -1);
        due.is("never given, 3", x.shape(3, 3), -1);
        due.is("what 4", x.shape(0, 4), -1);
        due.is("what -1", x.shape(0, -1), -1);
        due.is("name 6", x.shape(6, 0), -1);
        due.is("name -1", x.shape(-1, 0), -1);
        due.is("more of both", x.shapes(0), 0);
        due.is("more of one", x.shapes(1), 1);
        x.cradles(0, 0, 0, 0);
        x.cradles(2, 1, 1, 6);
        Due.year(x, -1, 3);
        due.is("more of both, with a fourth", x.shapes(0), 2);
        due.is("more of one, with a fourth", x.shapes(1), 1);
        CradleNames y = pickers();
        y.cradles(0, 0, 0, 2);
        Due.year(y, 0, -1);
        y.cradles(0, 0, 0, 3);
        Due.year(y, 0, -1);
        due.is("the rise has year 0", y.shape(0, 2), 1);
        due.is("the peak was the year gone by last", y.shape(0, 3), 0);
        due.is("shapes(2)", x.shapes(2), -1);
        due.is("shapes(-1)", x.shapes(-1), -1);
        due.is("shapes of none", new CradleNames().shapes(0), 0);
    }

    private static void lag() {
        CradleNames x = pickers();
        due.is("no year went by", x.lag(0), -1);
        due.is("no year went by, 10", x.lag(10), -1);
        x.cradles(1, 0, 0, 2);
        Due.year(x, 0, -1);
        x.cradles(2, 1, 1, 3);
        Due.year(x, 1, 0);
        Due.year(x, 2, 1);
        due.is("the lag", x.lag(0), 1);
        due.is("how far", x.lag(1), 0);
        due.is("by 0", x.lag(10), 1666);
        due.is("by 1", x.lag(11), 0);
        due.is("by 2", x.lag(12), 2000);
        due.is("by 3", x.lag(13), -1);
        due.is("by 20", x.lag(30), -1);
        due.is("lag(31)", x.lag(31), -1);
        due.is("lag(9)", x.lag(9), -1);
        due.is("lag(2)", x.lag(2), -1);
        due.is("lag(-1)", x.lag(-1), -1);
        CradleNames y = pickers();
        y.cradles(0, 0, 0, 1);
        y.cradles(0, 1, 0, 1);
        Due.year(y, 0, 0);
        Due.year(y, 0, 0);
        due.is("of like ones the lowest", y.lag(0), 0);
        CradleNames z = pickers();
        z.cradles(0, 0, 0, 1);
        z.cradles(0, 1, 0, 1);
        Due.year(z, 0, -1);
        z.years(20);
        Due.year(z, -1, 0);
        due.is("21 years are no lag", z.lag(0), 20);
        due.is("how far by 20", z.lag(1), 500);
        due.is("how far by 19", z.lag(29), 666);
    }

    private static void lagOfParts() {
        CradleNames x = new CradleNames();
        x.name(Due.letters("la"), 1);
        x.name(Due.letters("bo"), 2);
        Due.taste(x, "");
        x.by(0, 0);
        x.by(1, 0);
        x.cradles(0, 0, 0, 1);
        x.cradles(0, 0, 1, 2);
        x.cradles(1, 1, 0, 2);
        x.cradles(2, 1, 1, 1);
        x.years(1);
        // 333 and 666 above, 666 and 333 below
        due.is("thousandths are cut", x.lag(10), 666);
        CradleNames y = pickers();
        y.cradles(0, 1, 0, 1);
        Due.year(y, -1, 0);
        due.is("none above", y.lag(10), 1000);
    }

    private static void together() {
        CradleNames x = new CradleNames();
        x.name(Due.letters("anna"), 1);
        x.name(Due.letters("ella"), 1);
        x.name(Due.letters("otto"), 1);
        x.born(0, 0, 0, 0, 1, 2);
        Due.taste(x, "worth -all;");
        x.by(0, 0);
        x.cradles(0, 0, 0, 6);
        x.years(1);
        // anna 1 of 2 at -1, ella 3, otto 2
        due.is("anna", x.given(0, -1, -1, -1, 0), 1);
        due.is("of the ending a", x.together(0, 0), 1);
        due.is("likewise", x.together(1, 0), 1);
        due.is("of the ending o", x.together(2, 0), 1);
        x.years(1);
        due.is("anna rises", x.together(1, 1), 1);
        due.is("otto stays", x.together(2, 1), 0);
        due.is("not gone by", x.together(0, 2), -1);
        due.is("year -1", x.together(0, -1), -1);
        due.is("name 3", x.together(3, 0), -1);
        due.is("name -1", x.together(-1, 0), -1);
    }

    private static void sexes(CradleNames x, int girls, int boys) {
        x.cradles(0, 0, 0, girls);
        x.cradles(1, 0, 1, boys);
        Due.year(x, 0, -1);
    }

    private static void crossed() {
        CradleNames x = pickers();
        sexes(x, 3, 1);
        due.is("girls' from the first", x.crossed(0, 0), -1);
        sexes(x, 1, 2);
        due.is("boys' in 1", x.crossed(0, 0), -1);
        sexes(x, 0, 0);
        due.is("none in 2", x.crossed(0, 0), -1);
        sexes(x, 2, 2);
        due.is("as often in 3", x.crossed(0, 0), 3);
        due.is("not back", x.crossed(0, 1), 0);
        sexes(x, 5, 0);
        due.is("the first", x.crossed(0, 0), 3);
        sexes(x, 2, 3);
        due.is("back", x.crossed(0, 1), 1);
        due.is("the first still", x.crossed(0, 0), 3);
        due.is("another", x.crossed(1, 0), -1);
        due.is("another, back", x.crossed(1, 1), -1);
        due.is("what 2", x.crossed(0, 2), -1);
        due.is("what -1", x.crossed(0, -1), -1);
        due.is("name 6", x.crossed(6, 0), -1);
        CradleNames y = pickers();
        y.born(0, 0, 0, 1, 40, 1);
        y.born(0, 0, 0, 0, 39, 9);
        sexes(y, 1, 0);
        due.is("boys' at -40", y.crossed(0, 0), 0);
        due.is("not back in the year itself", y.crossed(0, 1), 0);
        sexes(y, 2, 2);
        due.is("as often is not back", y.crossed(0, 1), 0);
        CradleNames z = pickers();
        sexes(z, 0, 1);
        sexes(z, 1, 0);
        sexes(z, 0, 1);
        due.is("back in the next year", z.crossed(0, 1), 1);
    }

    private static void returned() {
        CradleNames x = pickers();
        x.born(0, 1, 1, 1, 40, 3);
        x.born(1, 0, 0, 0, 1, 6);
        x.cradles(0, 0, 0, 2);
        Due.year(x, 1, -1);
        Due.year(x, 2, -1);
        Due.year(x, 0, -1);
        Due.year(x, 0, -1);
        Due.year(x, 2, -1);
        Due.year(x, 1, -1);
        Due.year(x, 0, -1);
        // 0: -40, 2, 3, 6; 1: -1, 0, 5; 2: 1, 4
        due.is("behind 41", x.returned(0, 41, 0), 2);
        due.is("behind 42", x.returned(0, 42, 0), -1);
        due.is("behind 1", x.returned(0, 1, 0), 2);
        due.is("how many without", x.returned(0, 1, 1), 41);
        due.is("living ahead of it", x.returned(0, 1, 2), 3);
        due.is("behind 4", x.returned(1, 4, 0), 5);
        due.is("behind 5", x.returned(1, 5, 0), -1);
        due.is("behind 2", x.returned(1, 2, 0), 5);
        due.is("four without", x.returned(1, 2, 1), 4);
        due.is("eight living", x.returned(1, 2, 2), 8);
        due.is("never ahead", x.returned(2, 3, 0), -1);
        due.is("two without", x.returned(2, 2, 1), 2);
        due.is("never given", x.returned(3, 1, 0), -1);
        CradleNames y = pickers();
        y.life(20);
        y.born(0, 0, 0, 0, 20, 3);
        y.born(0, 0, 0, 0, 19, 4);
        y.born(0, 0, 0, 0, 18, 5);
        y.years(1);
        y.cradles(0, 0, 0, 1);
        Due.year(y, 0, -1);
        due.is("living at 0, not at 1 or -1", y.returned(0, 3, 2), 9);
        due.is("gap 0", x.returned(0, 0, 0), -1);
        due.is("gap 61", x.returned(0, 61, 0), -1);
        due.is("what 3", x.returned(0, 1, 3), -1);
        due.is("what -1", x.returned(0, 1, -1), -1);
        due.is("name 6", x.returned(6, 1, 0), -1);
    }

    private static void age() {
        CradleNames x = pickers();
        x.life(20);
        x.born(0, 0, 0, 0, 21, 90);
        x.born(0, 0, 0, 0, 5, 3);
        x.born(0, 1, 0, 1, 3, 4);
        x.born(0, 2, 1, 0, 2, 3);
        int[][] spans = {{1, -5, -5}, {30, -5, -5}, {31, -3, -3}, {40, -3, -3}, {41, -3, -2}, {70, -3, -2},
            {71, -5, -2}, {100, -5, -2}};
        for (int[] s : spans) {
            due.is("first year of " + s[0], x.age(0, s[0], 0), s[1]);
            due.is("last year of " + s[0], x.age(0, s[0], 1), s[2]);
            due.is("half of them", x.age(0, s[0], 2), -3);
        }
        x.born(1, 0, 0, 0, 20, 5);
        x.born(1, 0, 0, 0, 1, 5);
        due.is("just half", x.age(1, 50, 2), -20);
        due.is("of like ones the earliest", x.age(1, 50, 0), -20);
        due.is("the whole life, first", x.age(1, 51, 0), -20);
        due.is("the whole life, last", x.age(1, 51, 1), -1);
        x.born(3, 0, 0, 0, 2, 1);
        x.born(3, 0, 0, 0, 1, 3);
        due.is("half in the last year", x.age(3, 50, 2), -1);
        due.is("none living", x.age(2, 50, 0), -1000);
        due.is("p 0", x.age(0, 0, 0), -1000);
        due.is("p 101", x.age(0, 101, 0), -1000);
        due.is("what 3", x.age(0, 50, 3), -1000);
        due.is("what -1", x.age(0, 50, -1), -1000);
        due.is("name 6", x.age(6, 50, 0), -1000);
        x.years(1);
        due.is("-20 is gone", x.age(1, 50, 2), -1);
        x.years(19);
        due.is("all are gone", x.age(1, 50, 2), -1000);
    }

    private static void guess() {
        CradleNames x = pickers();
        x.life(20);
        due.is("none", x.guess(0), -1);
        x.born(0, 2, 0, 0, 21, 5);
        due.is("none living", x.guess(0), -1);
        x.born(0, 0, 0, 0, 3, 10);
        x.born(1, 0, 1, 0, 3, 30);
        x.born(0, 1, 0, 0, 3, 1);
        x.born(1, 1, 1, 1, 4, 1);
        x.born(0, 2, 0, 0, 9, 2);
        x.born(2, 2, 0, 0, 9, 2);
        due.is("of like parts the lowest", x.guess(0), 1);
        due.is("the greatest part", x.guess(1), 0);
        due.is("in one alone", x.guess(2), 2);
        due.is("nowhere", x.guess(3), -1);
        due.is("name 6", x.guess(6), -1);
        due.is("name -1", x.guess(-1), -1);
        x.years(12);
        due.is("-9 is gone", x.guess(2), -1);
        due.is("-3 is not", x.guess(0), 1);
    }

    private static void turnover() {
        CradleNames x = pickers();
        x.born(5, 0, 0, 0, 1, 3);
        x.born(0, 0, 0, 0, 1, 2);
        x.born(1, 0, 0, 0, 1, 2);
        x.born(2, 0, 0, 0, 1, 1);
        x.cradles(0, 0, 0, 2);
        x.cradles(0, 1, 0, 3);
        Due.year(x, 1, 3);
        // at -1: 5, 0, 1, 2; at 0: 3, 1
        due.is("the first", x.turnover(0, 1), 1);
        due.is("two: 1 was behind 5 and 0", x.turnover(0, 2), 2);
        due.is("three", x.turnover(0, 3), 1);
        due.is("sixteen", x.turnover(0, 16), 1);
        due.is("k 0", x.turnover(0, 0), -1);
        due.is("k 17", x.turnover(0, 17), -1);
        due.is("not gone by", x.turnover(1, 1), -1);
        due.is("year -1", x.turnover(-1, 1), -1);
        x.cradles(0, 0, 0, 0);
        x.cradles(0, 1, 0, 0);
        x.years(1);
        due.is("none given", x.turnover(1, 5), 0);
        x.cradles(0, 0, 0, 1);
        x.cradles(0, 1, 0, 1);
        Due.year(x, 4, 2);
        due.is("all are new", x.turnover(2, 5), 2);
        Due.year(x, 4, 3);
        due.is("of like ones the lowest: 3 and 4, ahead 2 and 4", x.turnover(3, 1), 1);
        due.is("of two one is new", x.turnover(3, 2), 1);
    }

    public static void main(String[] args) {
        shape();
        lag();
        lagOfParts();
        together();
        crossed();
        returned();
        age();
        guess();
        turnover();
        due.end();
    }
}
