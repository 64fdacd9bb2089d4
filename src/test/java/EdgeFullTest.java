/** Questions of a full land: the 16th name, the last place, sex and year, the sixth taste; and nothing beyond them. */
public final class EdgeFullTest {
    private static final Due due = new Due();

    /** Sixteen names of one ending, the last two of ten sounds, for girls and boys. */
    private static CradleNames sixteen() {
        CradleNames x = new CradleNames();
        String[] words = {"ma", "la", "ra", "ha", "ja", "ba", "da", "ga", "sa", "ila", "ola", "ira", "ora", "iha",
            "dgsmiohjra", "dgsmiohjla"};
        for (String word : words) {
            x.name(Due.letters(word), 3);
        }
        return x;
    }

    private static void fillAll(CradleNames x, int n) {
        for (int row = 0; row < 12; row++) {
            x.cradles(row / 4, row / 2 % 2, row % 2, n);
        }
    }

    private static void namesOfTenSounds() {
        CradleNames x = sixteen();
        due.is("ten sounds", x.of(15, 3), 10);
        due.is("the last one and itself", x.alike(15, 15), 1);
        due.is("the last two", x.alike(14, 15), 1);
        due.is("the last one and the first", x.alike(15, 0), 0);
        due.is("one ending", x.of(15, 2), 0);
    }

    /** Year 0: name 0 gets all of standing 0, name 15 all of standing 1. Year 1: name 0 gets all, 72. */
    private static CradleNames twoYears() {
        CradleNames x = sixteen();
        Due.taste(x, "");
        Due.taste(x, "worth sound*0+long;bar long<10;bar film>0;");
        x.film(14, 0, 999);
        for (int i = 0; i < 16; i++) {
            x.born(i, 0, 0, 0, 1, 1);
        }
        fillAll(x, 6);
        x.by(0, 0);
        x.by(1, 1);
        x.years(1);
        x.by(1, 0);
        x.years(1);
        return x;
    }

    private static void rows() {
        CradleNames x = twoYears();
        due.is("told ones, all names", x.given(-1, -1, -1, -1, -1), 16);
        due.is("told ones of a row, all names", x.given(-1, 0, 0, 0, -1), 16);
        due.is("year 0, all names", x.given(0, -1, -1, -1, -1), 72);
        due.is("year 0, the last name", x.given(0, -1, -1, -1, 15), 36);
        due.is("year 0, of a row", x.given(0, 0, 0, 0, -1), 6);
        due.is("year 1, all names", x.given(1, -1, -1, -1, -1), 72);
        due.is("year 1, the first name", x.given(1, 0, -1, -1, 0), 24);
        due.is("year 1, the last name", x.given(1, -1, -1, -1, 15), 0);
    }

    private static void trails() {
        CradleNames x = twoYears();
        due.is("together in 0: the first and the last", x.together(7, 0), 2);
        due.is("together in 1: the first", x.together(15, 1), 1);
        due.is("turnover of 0 by 16", x.turnover(0, 16), 0);
        due.is("turnover of 0 by 1", x.turnover(0, 1), 0);
        due.is("turnover of 0 by 2: the last for the second", x.turnover(0, 2), 1);
        due.is("turnover of 1 by 16", x.turnover(1, 16), 0);
        due.is("chance of all names in 1: the first and the last", x.chance(-1, 1, 1000000), 2);
        due.is("chance of the first", x.chance(0, 1, 1000000), 1);
        due.is("chance of the last", x.chance(15, 1, 1000000), 2);
        due.is("pairs with peaks", x.shapes(0), 0);
        due.is("pairs crossing", x.shapes(1), 0);
        due.is("by 0: 2000 and 0", x.lag(10), 1000);
        due.is("by 1: 0", x.lag(11), 0);
        // Half of 24 have the one, half the other: 132 of 276 pairs.
        due.is("two of a class", x.room(2, 0, 2, false), 132 * 1000000 / 276);
        due.is("three of a class", x.room(2, 0, 3, true), 1000000);
        due.is("the fewest, of like ones the lowest", x.best(2, 0, 0, 0), 9);
        due.is("none was given it or one alike", x.best(2, 0, 0, 1), 0);
        due.is("the last lives in all", x.guess(15), 1);
        due.is("the last one's age", x.age(15, 100, 0), -1);
        due.is("the last one's peak", x.shape(15, 0), 0);
        due.is("the last one's return", x.returned(15, 1, 0), -1);
    }

    /** Of the last place, sex and name tastes 4 and 5 bring different numbers, in 60 alone. */
    private static void printed() {
        CradleNames x = sixteen();
        for (int i = 0; i < 5; i++) {
            Due.taste(x, "worth year+long;");
        }
        Due.taste(x, "worth long;bar year=60;");
        x.list(0, 1 << 15);
        x.cradles(2, 1, 1, 6);
        due.is("not apart in 59", x.parts(59, 3), -1);
        due.is("the last place", x.parts(60, 0), 2);
        due.is("the last sex", x.parts(60, 1), 1);
        due.is("the last name", x.parts(60, 2), 15);
        due.is("how far", x.parts(60, 3), 6);
        due.is("the sixth taste alone", x.print(60, 2, 1, 15, 0), 1);
        due.is("is let", x.let(-1, 0), 1);
        due.is("by number", x.let(5, 0), 1);
        due.is("its span", x.span(60, 2, 1, 15, true), 0);
        due.is("its span in 59", x.span(59, 2, 1, 15, false), 6);
        CradleNames y = sixteen();
        Due.taste(y, "");
        Due.taste(y, "bar year=60;");
        y.cradles(0, 0, 0, 1);
        due.is("of the next year's first row nothing", y.parts(59, 0), -1);
        due.is("in its own year the first", y.parts(60, 2), 0);
    }

    /** What names, tastes and rows were gone leave nothing behind for those that come in their stead. */
    private static void inTheirStead() {
        CradleNames x = new CradleNames();
        x.name(Due.letters("adgs"), 3);
        x.taste();
        x.by(0, 0);
        x.cradles(0, 0, 0, 1);
        x.image();
        x.name(Due.letters("adgsm"), 3);
        x.film(1, 0, 999);
        x.born(1, 0, 0, 0, 1, 99);
        x.list(0, 2);
        due.is("the second alone", x.now(0, 0, 0, 0), 1);
        x.years(3);
        due.is("it was given", x.given(2, -1, -1, -1, 1), 1);
        x.back();
        due.is("the first alone", x.now(0, 0, 0, 0), 0);
        due.is("no second", x.now(0, 0, 0, 201), -2000000000);
        due.is("another second", x.name(Due.letters("ad"), 1), 1);
        due.is("its letters", x.of(1, 0), 2);
        due.is("its sounds", x.of(1, 3), 2);
        due.is("its likeness", x.alike(0, 1), 0);
        due.is("its sexes", x.of(1, 1), 1);
        due.is("its living", x.of(1, 4), 0);
        due.is("it is for girls", x.now(0, 0, 1, 201), 0);
        Due.taste(x, "worth film+gone;");
        x.by(0, 1);
        due.is("no film, never given", x.now(0, 0, 0, 101), 99);
        x.years(2);
        due.is("the lowest of like ones", x.given(0, -1, -1, -1, 0), 1);
        due.is("then it", x.given(1, -1, -1, -1, 1), 1);
        due.is("best of those that are", x.best(1, 0, 0, 0), 0);
        x.back();
        x.years(1);
        due.is("best of the one that is", x.best(0, 0, 0, 0), 0);
        due.is("how many were given it", x.best(0, 0, 0, 1), 1);
        due.is("chance of no year", x.chance(-1, 1, 2), -1);
    }

    public static void main(String[] args) {
        namesOfTenSounds();
        rows();
        trails();
        printed();
        inTheirStead();
        due.end();
    }
}
