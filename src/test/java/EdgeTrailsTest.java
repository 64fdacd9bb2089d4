import java.util.Arrays;

/** The edges of part III: peaks, shapes, lags, endings, crossings, returns, classes, ages, chance, turnover. */
public final class EdgeTrailsTest {
    private static final Due due = new Due();

    /** Six names for both, each with a taste of its own; of one ending are the first two, alike are none. */
    private static CradleNames six() {
        return Due.pickers("la", "bra", "lore", "simon", "gilbur", "kastrit");
    }

    /** In each year so many of name 0 in standing 0 of place 0, up to 12. */
    private static CradleNames course(int... counts) {
        CradleNames x = six();
        go(x, counts);
        return x;
    }

    private static void go(CradleNames x, int... counts) {
        for (int n : counts) {
            x.cradles(0, 0, 0, Math.min(n, 6));
            x.cradles(0, 0, 1, Math.max(n - 6, 0));
            Due.year(x, 0, -1);
        }
        x.cradles(0, 0, 0, 0);
        x.cradles(0, 0, 1, 0);
    }

    private static void shape(String what, CradleNames x, int peak, int most, int rise, int fall) {
        int[] want = {peak, most, rise, fall};
        for (int i = 0; i < 4; i++) {
            due.is(what + ": shape " + i, x.shape(0, i), want[i]);
        }
    }

    /** "PEAK ..: of YEARS that went by the first in which most were GIVEN (none, if none was)"; RISE, FALL */
    private static void shapes() {
        shape("none went by", six(), -1, -1, -1, -1);
        shape("none was given", course(0, 0), -1, -1, -1, -1);
        shape("one", course(1), 0, 1, 0, 0);
        shape("the first of like ones", course(0, 3, 3, 0), 1, 3, 0, 1);
        shape("just half", course(2, 4, 2), 1, 4, 1, 1);
        shape("less than half", course(2, 5, 2), 1, 5, 0, 0);
        shape("half of an odd one", course(3, 5, 3), 1, 5, 1, 1);
        shape("none of one", course(0, 1, 0), 1, 1, 0, 0);
        shape("from year 0 on", course(3, 3, 4), 2, 4, 2, 0);
        shape("to the year gone by last", course(4, 3, 3), 0, 4, 0, 2);
        shape("one behind the other", course(4, 1, 5, 1, 4), 2, 5, 0, 0);
        shape("a gap ends them", course(4, 0, 4, 5, 4, 0, 4), 3, 5, 1, 1);
        shape("later years of the peak's height", course(1, 5, 1, 5), 1, 5, 0, 0);
        CradleNames told = six();
        told.born(0, 0, 0, 0, 1, 50);
        shape("told ones are no peak", told, -1, -1, -1, -1);
        go(told, 2, 2);
        shape("nor in a rise", told, 0, 2, 0, 1);
        int[] long61 = new int[61];
        Arrays.fill(long61, 1);
        shape("a fall of sixty", course(long61), 0, 1, 0, 60);
        long61[60] = 2;
        shape("a rise of sixty", course(long61), 60, 2, 60, 0);
    }

    private static void pair(String what, int[] other, int both, int crossing) {
        CradleNames x = six();
        int[] first = {1, 2, 4, 2, 1};
        for (int y = 0; y < 5; y++) {
            x.cradles(0, 0, 0, first[y]);
            x.cradles(1, 1, 1, other[y]);
            Due.year(x, 0, 1);
        }
        due.is(what + ", more of both", x.shapes(0), both);
        due.is(what + ", more of one", x.shapes(1), crossing);
    }

    /** "SHAPES: pairs of NAMES with PEAKS"; name 0 has a rise of 1 and a fall of 1 */
    private static void pairs() {
        pair("without a peak", new int[] {0, 0, 0, 0, 0}, 0, 0);
        pair("the same", new int[] {1, 2, 4, 2, 1}, 0, 0);
        pair("the same rise, less fall", new int[] {1, 2, 4, 1, 1}, 0, 0);
        pair("the same rise, more fall", new int[] {1, 2, 4, 2, 2}, 0, 0);
        pair("the same fall, less rise", new int[] {1, 1, 4, 2, 1}, 0, 0);
        pair("the same fall, more rise", new int[] {2, 2, 4, 2, 1}, 0, 0);
        pair("less of both", new int[] {1, 1, 4, 1, 1}, 1, 0);
        pair("more of both", new int[] {2, 2, 4, 2, 2}, 1, 0);
        pair("more rise, less fall", new int[] {2, 2, 4, 1, 1}, 0, 1);
        pair("less rise, more fall", new int[] {1, 1, 4, 2, 2}, 0, 1);
        CradleNames x = six();
        due.is("no year went by", x.shapes(0), 0);
        due.is("no year went by, 1", x.shapes(1), 0);
        due.is("no names", new CradleNames().shapes(1), 0);
    }

    /** "LAG L (0 .. 20): .. YEARS y with y and y + L gone by"; "NONE: no such YEARS" */
    private static void lags() {
        CradleNames x = six();
        due.is("no year went by", x.lag(0), -1);
        due.is("no year went by, 1", x.lag(1), -1);
        due.is("no year went by, 10", x.lag(10), -1);
        x.years(1);
        due.is("nothing given: the lowest", x.lag(0), 0);
        due.is("nothing given: not apart", x.lag(1), 0);
        due.is("by 0 of one year", x.lag(10), 0);
        due.is("by 1 of one year", x.lag(11), -1);
        x.years(19);
        due.is("by 19 of twenty", x.lag(29), 0);
        due.is("by 20 of twenty", x.lag(30), -1);
        x.years(1);
        due.is("by 20 of twenty-one", x.lag(30), 0);
        due.is("by 21", x.lag(31), -1);
        due.is("9", x.lag(9), -1);
        due.is("2", x.lag(2), -1);
        CradleNames y = six();
        y.cradles(0, 0, 0, 1);
        Due.year(y, 0, -1);
        y.cradles(0, 0, 0, 0);
        y.years(19);
        due.is("up to the greatest that is: 1000 / 1", y.lag(29), 1000);
        due.is("by 0: 1000 / 20", y.lag(10), 50);
        y.cradles(0, 1, 0, 1);
        Due.year(y, -1, 0);
        due.is("the lag is 20", y.lag(0), 20);
        due.is("not apart by 20", y.lag(1), 0);
        due.is("by 0: 2000 / 21", y.lag(10), 95);
        due.is("by 19: 2000 / 2", y.lag(29), 1000);
        y.years(20);
        due.is("21 is none, though the years are there", y.lag(31), -1);
        due.is("nor is -1", y.lag(9), -1);
        due.is("20 is: 20000 / 21", y.lag(30), 952);
    }

    /** "thousandths .. (of all GIVEN there and then, cut; 0 without)", "of like ones the lowest" */
    private static void thousandths() {
        CradleNames x = six();
        x.cradles(0, 0, 0, 1);
        x.cradles(0, 1, 0, 1);
        Due.year(x, 0, 1);
        due.is("one each", x.lag(10), 2000);
        Due.year(x, 1, 0);
        due.is("by 1 they are the same", x.lag(11), 0);
        due.is("the lag", x.lag(0), 1);
        Due.year(x, 0, 1);
        due.is("by 2 apart", x.lag(12), 2000);
        Due.year(x, 1, 0);
        due.is("by 1 and by 3 alike, the lowest", x.lag(0), 1);
        due.is("by 3", x.lag(13), 0);
        CradleNames y = new CradleNames();
        y.name(Due.letters("la"), 3);
        y.name(Due.letters("bo"), 3);
        y.name(Due.letters("gu"), 3);
        Due.taste(y, "worth -near;");
        y.by(0, 0);
        y.cradles(0, 0, 0, 3);
        y.born(0, 0, 1, 0, 1, 5);
        y.years(1);
        due.is("each of three is 333, none below", y.lag(10), 999);
    }

    /** "TOGETHER in a YEAR: NAMES of an ENDING that were GIVEN more often than in the YEAR ahead" */
    private static void together() {
        CradleNames x = six();
        x.born(1, 0, 0, 0, 1, 1);
        due.is("0 has not gone by", x.together(0, 0), -1);
        x.cradles(0, 0, 0, 1);
        x.cradles(0, 1, 0, 1);
        Due.year(x, 0, 1);
        due.is("in 0 against -1: one more often, one as often", x.together(0, 0), 1);
        x.cradles(0, 1, 0, 2);
        Due.year(x, 0, 1);
        due.is("as often, more often", x.together(1, 1), 1);
        x.cradles(0, 0, 0, 2);
        x.cradles(0, 1, 0, 3);
        Due.year(x, 0, 1);
        due.is("both more often", x.together(1, 2), 2);
        Due.year(x, 2, 3);
        due.is("both less often", x.together(0, 3), 0);
        due.is("of another ending one", x.together(2, 3), 1);
        due.is("-1", x.together(0, -1), -1);
        due.is("4 has not gone by", x.together(0, 4), -1);
    }

    private static void sexes(CradleNames x, int girls, int boys) {
        x.cradles(0, 0, 0, girls);
        x.cradles(2, 0, 1, boys);
        Due.year(x, 0, -1);
    }

    private static void crossed(String what, CradleNames x, int year, int back) {
        due.is(what, x.crossed(0, 0), year);
        due.is(what + ", back", x.crossed(0, 1), back);
    }

    /** "CROSSED: the first YEAR gone by in which a NAME was GIVEN, to girls as often as to boys or more .." */
    private static void crossings() {
        CradleNames x = six();
        crossed("no year went by", x, -1, -1);
        sexes(x, 0, 1);
        crossed("boys' alone", x, -1, -1);
        sexes(x, 0, 0);
        crossed("not given", x, -1, -1);
        sexes(x, 1, 2);
        crossed("boys' still", x, -1, -1);
        sexes(x, 1, 1);
        crossed("as often", x, 3, 0);
        sexes(x, 1, 1);
        sexes(x, 0, 0);
        crossed("not given is not back", x, 3, 0);
        sexes(x, 0, 1);
        crossed("back in the year gone by last", x, 3, 1);
        sexes(x, 3, 0);
        crossed("over once more", x, 3, 1);
        CradleNames same = six();
        same.born(0, 0, 0, 0, 1, 5);
        same.born(0, 0, 0, 1, 1, 5);
        sexes(same, 1, 0);
        crossed("as often ahead is not boys'", same, -1, -1);
        CradleNames early = six();
        early.born(0, 0, 0, 1, 40, 2);
        early.born(0, 0, 0, 0, 40, 1);
        early.born(0, 0, 0, 0, 39, 9);
        crossed("told ones are no crossing", early, -1, -1);
        sexes(early, 1, 0);
        crossed("from -40 on", early, 0, 0);
        CradleNames late = six();
        late.years(20);
        late.years(20);
        late.years(19);
        sexes(late, 0, 6);
        sexes(late, 6, 6);
        crossed("in 60", late, 60, 0);
    }

    private static void returned(String what, CradleNames x, int gap, int year, int empty) {
        due.is(what, x.returned(0, gap, 0), year);
        due.is(what + ", how many without", x.returned(0, gap, 1), empty);
    }

    /** "RETURN behind a gap of g YEARS (1 .. 60): .. the g YEARS just ahead without, and GIVEN at some YEAR ahead of these" */
    private static void returns() {
        returned("given all along", course(1, 1, 1), 1, -1, -1);
        returned("never ahead", course(0, 0, 1), 1, -1, -1);
        returned("a gap of one", course(1, 0, 1), 1, 2, 1);
        returned("it is no gap of two", course(1, 0, 1), 2, -1, -1);
        returned("the first", course(1, 0, 1, 0, 0, 1, 0, 0, 0, 1), 1, 2, 1);
        returned("the first of two or more", course(1, 0, 1, 0, 0, 1, 0, 0, 0, 1), 2, 5, 2);
        returned("the first of three or more", course(1, 0, 1, 0, 0, 1, 0, 0, 0, 1), 3, 9, 3);
        returned("a gap that has not ended", course(1, 0, 0), 1, -1, -1);
        CradleNames x = six();
        x.born(0, 0, 0, 0, 40, 3);
        x.years(20);
        x.image();
        go(x, 1);
        returned("59 without", x, 59, 20, 59);
        returned("59 are not 60", x, 60, -1, -1);
        x.back();
        x.years(1);
        go(x, 1);
        returned("60 without", x, 60, 21, 60);
        due.is("none lives in 20", x.returned(0, 60, 2), 0);
        x.back();
        x.years(20);
        x.years(20);
        go(x, 1);
        returned("99 without", x, 60, 60, 99);
        due.is("gap 61", x.returned(0, 61, 0), -1);
        due.is("gap 0", x.returned(0, 0, 0), -1);
        CradleNames y = six();
        y.born(0, 0, 0, 0, 2, 1);
        go(y, 1);
        returned("in 0", y, 1, 0, 1);
        due.is("living in -1", y.returned(0, 1, 2), 1);
        CradleNames z = six();
        z.born(0, 0, 0, 0, 1, 1);
        go(z, 1);
        returned("-1 is just ahead", z, 1, -1, -1);
        CradleNames life = six();
        life.life(20);
        life.born(0, 0, 0, 0, 20, 5);
        life.born(0, 0, 0, 0, 19, 7);
        life.years(1);
        go(life, 1);
        due.is("living in 0, a life of 20", life.returned(0, 5, 2), 7);
    }

    /** "A CLASS of n (2 .. 8) of those GIVEN a NAME in a PLACE and a YEAR gone by (0 on) .. (in millionths, cut)" */
    private static void classes() {
        CradleNames x = six();
        x.born(0, 0, 0, 0, 1, 50);
        due.is("told ones are no class", x.room(0, -1, 2, false), -1);
        due.is("0 has not gone by", x.room(0, 0, 2, false), -1);
        x.cradles(0, 0, 0, 1);
        Due.year(x, 0, -1);
        due.is("one child", x.room(0, 0, 2, false), -1);
        x.cradles(0, 1, 0, 1);
        Due.year(x, 0, 1);
        due.is("two of two names", x.room(0, 1, 2, false), 0);
        Due.year(x, 0, 0);
        due.is("two of one name", x.room(0, 2, 2, false), 1000000);
        x.cradles(0, 0, 0, 6);
        x.cradles(0, 0, 1, 1);
        x.cradles(0, 1, 0, 0);
        Due.year(x, 0, -1);
        due.is("seven: a class of seven", x.room(0, 3, 7, false), 1000000);
        due.is("seven: none of eight", x.room(0, 3, 8, false), -1);
        x.cradles(0, 1, 1, 1);
        Due.year(x, 0, 1);
        due.is("eight: a class of eight", x.room(0, 4, 8, false), 1000000);
        due.is("eight: seven of one name", x.room(0, 4, 2, false), 21 * 1000000 / 28);
        due.is("in another place", x.room(1, 4, 2, false), -1);
        due.is("a class of nine", x.room(0, 4, 9, false), -1);
        CradleNames y = six();
        y.cradles(0, 0, 0, 2);
        y.cradles(0, 1, 0, 5);
        Due.year(y, 0, 1);
        // 11 of 21 pairs: 523809.5
        due.is("cut", y.room(0, 0, 2, false), 523809);
        CradleNames unnamed = six();
        unnamed.cradles(0, 0, 0, 1);
        unnamed.cradles(0, 1, 0, 6);
        Due.year(unnamed, 0, -1);
        due.is("those unnamed are no one's", unnamed.room(0, 0, 2, false), -1);
    }

    /** Sixteen names, 24 children: the largest classes there are. */
    private static void fullClass() {
        CradleNames x = new CradleNames();
        String[] words = {"ah", "jala", "radaja", "hamalaja", "gagahahala", "salasarada", "ol", "odoho",
            "obohoroj", "omo", "ijijil", "isihis", "igihidiri", "ririgimi", "jojogohomo", "dada"};
        for (String word : words) {
            x.name(Due.letters(word), 3);
        }
        due.is("16 names", x.about(1), 16);
        Due.taste(x, "worth -near;");
        x.by(0, 0);
        x.by(1, 0);
        for (int i = 0; i < 4; i++) {
            x.cradles(1, i / 2, i % 2, 6);
        }
        x.years(1);
        // Eight names twice, eight once: two share in 8 of 276 pairs.
        due.is("two of 24", x.room(1, 0, 2, false), 8 * 1000000 / 276);
        // Ways that none share: the eighth sum of products of eight twos and eight ones.
        long none = 0;
        long[] choose = {1, 8, 28, 56, 70, 56, 28, 8, 1};
        for (int twos = 0; twos <= 8; twos++) {
            none += choose[twos] * choose[8 - twos] << twos;
        }
        due.is("eight of 24", x.room(1, 0, 8, false), (735471 - none) * 1000000 / 735471);
        due.is("or alike is no less", x.room(1, 0, 8, true) >= x.room(1, 0, 8, false), true);
    }

    /** "BEST ..: the fewest .. in the PLACE in the YEAR gone by last; of like ones the greatest WORTH, then the lowest" */
    private static void best() {
        CradleNames x = six();
        x.by(0, 0);
        due.is("no year went by", x.best(0, 0, 0, 0), -1);
        due.is("no year went by, 1", x.best(0, 0, 0, 1), -1);
        CradleNames y = new CradleNames();
        y.name(Due.letters("la"), 1);
        y.name(Due.letters("gu"), 1);
        y.name(Due.letters("sih"), 1);
        y.name(Due.letters("om"), 2);
        Due.taste(y, "bar long=3;");
        Due.taste(y, "worth long;");
        Due.taste(y, "bar 1=1;");
        y.by(0, 0);
        y.cradles(0, 0, 0, 2);
        y.years(1);
        due.is("of like ones the lowest", y.best(1, 0, 0, 0), 0);
        due.is("given in the place", y.best(0, 0, 0, 0), 1);
        due.is("how many", y.best(0, 0, 0, 1), 0);
        y.by(0, 1);
        due.is("of like ones the greatest worth", y.best(0, 0, 0, 0), 2);
        y.list(1, 1);
        due.is("the one that may", y.best(0, 0, 0, 0), 0);
        due.is("two were given it", y.best(0, 0, 0, 1), 2);
        due.is("none is for boys", y.best(0, 0, 1, 0), -1);
        due.is("none is for boys, 1", y.best(0, 0, 1, 1), -1);
        y.by(0, 2);
        due.is("none may", y.best(0, 0, 0, 0), -1);
        y.by(0, -1);
        due.is("no taste holds", y.best(0, 0, 0, 0), -1);
        y.by(0, 1);
        y.cradles(0, 0, 0, 0);
        y.years(1);
        due.is("the year gone by last alone", y.best(0, 0, 0, 1), 0);
        y.years(20);
        y.years(20);
        y.years(18);
        due.is("at 60", y.best(0, 0, 0, 0), 0);
        y.years(1);
        due.is("at 61", y.best(0, 0, 0, 0), -1);
    }

    private static void age(CradleNames x, int p, int first, int last) {
        due.is("first of " + p, x.age(0, p, 0), first);
        due.is("last of " + p, x.age(0, p, 1), last);
    }

    /** "AGE: .. the shortest span .. that has p of a hundred or more of them, of like ones the earliest" */
    private static void ages() {
        CradleNames x = six();
        age(x, 50, -1000, -1000);
        x.born(0, 0, 0, 0, 40, 1);
        age(x, 1, -40, -40);
        age(x, 100, -40, -40);
        x.born(0, 0, 0, 0, 1, 99);
        age(x, 1, -40, -40);
        age(x, 2, -1, -1);
        age(x, 99, -1, -1);
        age(x, 100, -40, -1);
        due.is("half of them by -1", x.age(0, 1, 2), -1);
        CradleNames y = six();
        for (int ago = 1; ago <= 4; ago++) {
            y.born(0, 0, 0, 0, ago, 25);
        }
        age(y, 25, -4, -4);
        age(y, 26, -4, -3);
        age(y, 50, -4, -3);
        age(y, 51, -4, -2);
        age(y, 75, -4, -2);
        age(y, 76, -4, -1);
        due.is("just half by -3", y.age(0, 100, 2), -3);
        y.born(0, 0, 0, 0, 1, 1);
        due.is("just less than half by -3", y.age(0, 100, 2), -2);
        CradleNames life = six();
        life.life(20);
        life.born(0, 0, 0, 0, 21, 99);
        age(life, 50, -1000, -1000);
        due.is("none lives, half of them", life.age(0, 50, 2), -1000);
        life.born(0, 0, 0, 0, 20, 1);
        age(life, 100, -20, -20);
        life.years(1);
        age(life, 100, -1000, -1000);
        go(life, 1);
        age(life, 100, 1, 1);
        CradleNames late = six();
        late.years(20);
        late.years(20);
        late.years(20);
        go(late, 1);
        age(late, 1, 60, 60);
        due.is("half of them by 60", late.age(0, 1, 2), 60);
    }

    /** Very many of one year and one of another: 99 of a hundred are in the one, a hundred are not. */
    private static void agesOfMany() {
        CradleNames x = new CradleNames();
        x.name(Due.letters("anna"), 3);
        for (int row = 0; row < 4; row++) {
            for (int i = 0; i < 101; i++) {
                x.born(0, row / 4, row / 2 % 2, row % 2, 7, 99);
            }
        }
        x.born(0, 0, 0, 0, 9, 1);
        due.is("39997 live", x.of(0, 4), 39997);
        due.is("99 of a hundred", x.age(0, 99, 0), -7);
        due.is("all of them", x.age(0, 100, 0), -9);
    }

    /** "GUESS: the PLACE in which it has the greatest part ..; of like ones the lowest (..; none, if it has none)" */
    private static void guesses() {
        CradleNames x = six();
        due.is("none", x.guess(0), -1);
        x.born(0, 2, 0, 0, 1, 1);
        due.is("in one place", x.guess(0), 2);
        x.born(0, 1, 1, 1, 40, 99);
        due.is("all of two places, the lowest", x.guess(0), 1);
        x.born(1, 1, 0, 0, 1, 1);
        due.is("99 of a hundred against one of one", x.guess(0), 2);
        x.born(1, 2, 0, 0, 1, 1);
        due.is("99 of a hundred against one of two", x.guess(0), 1);
        x.born(0, 0, 0, 0, 1, 99);
        x.born(1, 0, 0, 0, 1, 1);
        due.is("99 of a hundred twice, the lowest", x.guess(0), 0);
        due.is("1 of 100, 1 of 100, 1 of 2", x.guess(1), 2);
        x.years(19);
        due.is("-40 is a life of 59 ago", x.guess(0), 0);
        due.is("never given", x.guess(2), -1);
    }

    /** So many of the first name and of the second, up to 36 each. */
    private static void split(CradleNames x, int first, int second) {
        int[] left = {first, second};
        for (int row = 0; row < 12; row++) {
            int standing = row / 2 % 2;
            int n = Math.min(left[standing], 6);
            x.cradles(row / 4, standing, row % 2, n);
            left[standing] -= n;
        }
        Due.year(x, 0, 1);
    }

    /** "BEYOND CHANCE ..: above, if odds that a NAME comes as often as it was GIVEN, or more, are 1 in told or less" */
    private static void chance() {
        CradleNames x = six();
        x.born(0, 0, 0, 0, 1, 5);
        split(x, 1, 1);
        due.is("year 0", x.chance(0, 0, 2), -1);
        due.is("1 has not gone by", x.chance(0, 1, 2), -1);
        split(x, 1, 0);
        due.is("one of one, half ahead: 1 in 2", x.chance(0, 1, 2), 1);
        due.is("it is not 1 in 3", x.chance(0, 1, 3), 0);
        due.is("none of one: 1 in 2", x.chance(1, 1, 2), 2);
        due.is("it is not 1 in 3", x.chance(1, 1, 3), 0);
        due.is("both", x.chance(-1, 1, 2), 2);
        due.is("neither", x.chance(-1, 1, 3), 0);
        split(x, 0, 1);
        due.is("from all to none", x.chance(0, 2, 1000000), 2);
        due.is("from none to all", x.chance(1, 2, 1000000), 1);
        due.is("from none to none", x.chance(2, 2, 2), 0);
        split(x, 0, 36);
        due.is("from all to all", x.chance(1, 3, 2), 0);
        due.is("from none to none again", x.chance(0, 3, 2), 0);
        split(x, 0, 0);
        due.is("none in it", x.chance(0, 4, 2), -1);
        split(x, 1, 0);
        due.is("none in the year ahead", x.chance(0, 5, 2), -1);
        due.is("none in the year ahead, all names", x.chance(-1, 5, 2), -1);
        due.is("told 1", x.chance(1, 1, 1), -1);
        due.is("told 2", x.chance(1, 1, 2), 2);
        due.is("told 1000000", x.chance(1, 1, 1000000), 0);
        due.is("told 1000001", x.chance(1, 1, 1000001), -1);
    }

    /** Odds of 2 to the -19 and -20 about 1 in 524288 and beyond 1 in a million, exactly. */
    private static void exactly() {
        CradleNames x = six();
        split(x, 36, 36);
        split(x, 19, 0);
        due.is("1 in 524288", x.chance(0, 1, 524288), 1);
        due.is("not 1 in 524289", x.chance(0, 1, 524289), 0);
        split(x, 36, 36);
        split(x, 20, 0);
        due.is("1 in 1048576 is less", x.chance(0, 3, 1000000), 1);
        CradleNames y = six();
        split(y, 1, 9);
        split(y, 6, 0);
        due.is("1 in a million", y.chance(0, 1, 1000000), 1);
        split(y, 9, 1);
        split(y, 0, 6);
        due.is("1 in a million of the other", y.chance(1, 3, 1000000), 1);
        due.is("as seldom 1 in a million", y.chance(0, 3, 1000000), 2);
        CradleNames z = six();
        split(z, 35, 36);
        split(z, 36, 36);
        due.is("72 children of 71: 36 or more", z.chance(0, 1, 2), 1);
        due.is("36 or less of the other", z.chance(1, 1, 2), 2);
        due.is("not 1 in 3", z.chance(0, 1, 3), 0);
    }

    /** "Of the k (1 .. 16) most GIVEN NAMES of a YEAR gone by (of like ones the lowest first; those that were)" */
    private static void turnover() {
        CradleNames x = six();
        due.is("none went by", x.turnover(0, 1), -1);
        x.born(1, 0, 0, 0, 1, 1);
        x.born(3, 0, 0, 0, 2, 9);
        split(x, 1, 1);
        due.is("of like ones the lowest first", x.turnover(0, 1), 1);
        due.is("of two one was there in -1", x.turnover(0, 2), 1);
        due.is("k 16", x.turnover(0, 16), 1);
        due.is("k 17", x.turnover(0, 17), -1);
        due.is("k 0", x.turnover(0, 0), -1);
        split(x, 0, 0);
        due.is("none given", x.turnover(1, 16), 0);
        split(x, 1, 2);
        due.is("none the year ahead", x.turnover(2, 16), 2);
        due.is("none the year ahead, k 1", x.turnover(2, 1), 1);
        split(x, 2, 1);
        due.is("the first changed", x.turnover(3, 1), 1);
        due.is("the first two are the same", x.turnover(3, 2), 0);
        split(x, 3, 3);
        due.is("now like ones, the lowest is the same", x.turnover(4, 1), 0);
        due.is("-1", x.turnover(-1, 1), -1);
        due.is("5 has not gone by", x.turnover(5, 1), -1);
    }

    /** Sixteen names given in one year and sixteen in the next: k of 15, 16. */
    private static void turnoverOfSixteen() {
        CradleNames x = new CradleNames();
        for (int i = 0; i < 16; i++) {
            x.name(Due.letters("b" + (char) ('a' + i)), 3);
            x.born(i, 0, 0, 0, 1, 16 - i);
        }
        Due.taste(x, "bar all>15 or near>0;near 1;");
        x.by(0, 0);
        x.by(1, 0);
        for (int row = 0; row < 4; row++) {
            x.cradles(0, row / 2, row % 2, 6);
        }
        x.list(0, 0xfffe);
        x.years(1);
        for (int i = 0; i < 16; i++) {
            due.is("once all but the first: " + i, x.given(0, -1, -1, -1, i), i == 0 ? 0 : 1);
        }
        due.is("k 16: all were ahead", x.turnover(0, 16), 0);
        due.is("k 15: the last was not", x.turnover(0, 15), 1);
    }

    public static void main(String[] args) {
        shapes();
        pairs();
        lags();
        thousandths();
        together();
        crossings();
        returns();
        classes();
        fullClass();
        best();
        ages();
        agesOfMany();
        guesses();
        chance();
        exactly();
        turnover();
        turnoverOfSixteen();
        due.end();
    }
}
