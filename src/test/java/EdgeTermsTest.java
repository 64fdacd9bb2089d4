/** The edges that "Terms" names: clock, names, vowels, sounds, likeness, the living, cradles, lists, films. */
public final class EdgeTermsTest {
    private static final Due due = new Due();

    private static void sixtyYears(CradleNames x) {
        x.years(20);
        x.years(20);
        x.years(20);
    }

    /** "the clock: the YEAR that goes by next, at first 0 (61: none more goes by)" */
    private static void clock() {
        CradleNames x = new CradleNames();
        due.is("at first", x.about(0), 0);
        x.name(Due.letters("anna"), 1);
        x.taste();
        x.by(0, 0);
        x.cradles(0, 0, 0, 1);
        sixtyYears(x);
        due.is("60 is to go by", x.given(60, -1, -1, -1, -1), -1);
        due.is("two are too many", x.years(2), -1);
        due.is("none of the two went by", x.about(0), 60);
        due.is("one is not", x.years(1), 61);
        due.is("60 has gone by", x.given(60, -1, -1, -1, -1), 1);
        due.is("61 never does", x.given(61, -1, -1, -1, -1), -1);
        due.is("none more", x.years(1), -1);
        due.is("unnamed in 61", x.unnamed(61), -1);
        due.is("a list at 61", x.list(61, 1), -1);
        due.is("a film at 61", x.film(0, 61, 1), -1);
    }

    /** "2 to 10 letters a .. z, as a number of five bits each, 1 for a to 26 for z, the first one lowest" */
    private static void letters() {
        CradleNames x = new CradleNames();
        due.is("z alone", x.name(26, 1), -1);
        due.is("aa, the least of two", x.name(33, 1), 0);
        due.is("its letters", x.of(0, 0), 2);
        due.is("zz, the greatest of two", x.name(26 << 5 | 26, 1), 1);
        due.is("ten z, the greatest of all", x.name(Due.letters("zzzzzzzzzz"), 1), 2);
        due.is("its letters", x.of(2, 0), 10);
        due.is("ten a", x.name(Due.letters("aaaaaaaaaa"), 1), 3);
        due.is("eleven a", x.name(Due.letters("aaaaaaaaaaa"), 1), -1);
        due.is("twelve a", x.name(Due.letters("aaaaaaaaaaaa"), 1), -1);
        due.is("the least and the greatest number", x.name(Long.MIN_VALUE, 1), -1);
        due.is("the greatest number", x.name(Long.MAX_VALUE, 1), -1);
        due.is("ten letters and a bit behind them", x.name(Due.letters("abcdefghij") | 1L << 50, 1), -1);
        due.is("ten letters and the highest bit", x.name(Due.letters("abcdefghij") | 1L << 63, 1), -1);
        for (int place = 0; place < 10; place++) {
            long nine = Due.letters("mmmmmmmmmm") & ~(31L << 5 * place);
            for (int wrong : new int[] {0, 27, 28, 29, 30, 31}) {
                if (wrong != 0 || place < 9) {
                    due.is("letter " + wrong + " at " + place, x.name(nine | (long) wrong << 5 * place, 1), -1);
                }
            }
        }
        due.is("a gap behind one letter", x.name(1L | 1L << 10, 1), -1);
        due.is("the first one is lowest", x.name(Due.letters("ab"), 1), 4);
        due.is("ab", Due.letters("ab"), 1 + 2 * 32);
        due.is("its ending is its own", x.of(4, 2), 4);
    }

    /** "NAMES 0 .. 15", "no two of the same letters; for girls, boys or both" */
    private static void sixteen() {
        CradleNames x = new CradleNames();
        for (int i = 0; i < 15; i++) {
            x.name(Due.letters("ma" + (char) ('a' + i)), 1 + i % 3);
        }
        due.is("the same letters, as 15th of 15", x.name(Due.letters("mao"), 1), -1);
        due.is("the 16th", x.name(Due.letters("map"), 3), 15);
        due.is("its sexes", x.of(15, 1), 3);
        due.is("the 17th", x.name(Due.letters("maq"), 3), -1);
        due.is("name 16", x.of(16, 0), -1);
        due.is("16 names", x.about(1), 16);
        due.is("alike at the edge", x.alike(15, 14), 1);
        x.taste();
        x.by(0, 0);
        due.is("200 + 15", x.now(0, 0, 1, 215), 1);
        due.is("200 + 16", x.now(0, 0, 1, 216), -2000000000);
        x.list(0, 1 << 15);
        due.is("the 16th on a list of its own", x.now(0, 0, 1, 0), 15);
        x.cradles(2, 0, 0, 6);
        x.cradles(2, 0, 1, 6);
        x.years(1);
        due.is("given of the 16th", x.given(0, 2, 0, 0, 15), 6);
        due.is("and of it to boys", x.given(0, 2, 0, 1, 15), 6);
        due.is("of the 15th none", x.given(0, 2, -1, -1, 14), 0);
        due.is("print of the 16th", x.print(0, 2, 0, 15, 6), 1);
        due.is("a row of the 16th is so", x.let(0, 1), 1);
        due.is("span of the 16th", x.span(0, 2, 0, 15, false), 6);
        due.is("two who share the 16th", x.room(2, 0, 8, false), 1000000);
    }

    /** "A NAME can be GIVEN from the clock's YEAR on in which it was told (in RUNS too)" */
    private static void fromTheYearTold() {
        CradleNames x = new CradleNames();
        x.name(Due.letters("ab"), 1);
        Due.taste(x, "worth long;");
        x.by(0, 0);
        x.cradles(0, 0, 0, 1);
        x.film(0, 0, 1);
        x.years(2);
        x.name(Due.letters("abc"), 1);
        x.years(1);
        due.is("in the year ahead", x.given(1, -1, -1, -1, 1), 0);
        due.is("in its year", x.given(2, -1, -1, -1, 1), 1);
        due.is("in the run by a taste, the year ahead", x.span(1, 0, 0, 1, true), 0);
        due.is("in the run by a taste, its year", x.span(2, 0, 0, 1, false), 1);
        due.is("in the run without a film, the year ahead", x.took(0, 1, 1), 0);
        due.is("in the run without a film, its year", x.took(0, 1, 2), 0);
        due.is("in the run without sound, the year ahead", x.sound(1, 1), 0);
        due.is("in the run without sound, its year", x.sound(1, 2), 0);
        CradleNames y = new CradleNames();
        Due.taste(y, "");
        y.cradles(0, 0, 0, 1);
        y.image();
        sixtyYears(y);
        due.is("a name told at 60", y.name(Due.letters("ab"), 1), 0);
        due.is("in 59", y.span(59, 0, 0, 0, true), 0);
        due.is("in 60", y.span(60, 0, 0, 0, false), 1);
        y.years(1);
        due.is("a name told at 61", y.name(Due.letters("abc"), 1), 1);
        due.is("it is never given", y.span(60, 0, 0, 1, true), 0);
        y.back();
        y.name(Due.letters("ab"), 1);
        due.is("told anew, at 0", y.span(0, 0, 0, 0, false), 1);
    }

    private static int lowestOfEnding(String one, String other) {
        CradleNames x = new CradleNames();
        x.name(Due.letters(one), 1);
        x.name(Due.letters(other), 1);
        return x.of(1, 2);
    }

    /** "VOWELS: a e i o u y. The ENDING of a NAME: its letters from the last VOWEL on (without one all)" */
    private static void endings() {
        for (char c = 'a'; c <= 'z'; c++) {
            boolean vowel = "aeiouy".indexOf(c) >= 0;
            // With a vowel ahead of l the ending is that vowel and l; without one it is the a's.
            due.is("is " + c + " a vowel", lowestOfEnding("m" + c + "l", "ra" + c + "l") == 0, vowel);
        }
        due.is("a vowel at the end", lowestOfEnding("bla", "mma"), 0);
        due.is("a vowel at the front alone", lowestOfEnding("abb", "mabb"), 0);
        due.is("all of the name is an ending", lowestOfEnding("mabb", "abb"), 0);
        due.is("the last of two vowels", lowestOfEnding("eba", "oma"), 0);
        due.is("two vowels side by side", lowestOfEnding("mea", "moa"), 0);
        due.is("not from the first vowel on", lowestOfEnding("baba", "bobe"), 1);
        due.is("without a vowel all", lowestOfEnding("bcd", "mbcd"), 1);
        due.is("without a vowel not the last letter", lowestOfEnding("bd", "cd"), 1);
        due.is("letters count, not sounds", lowestOfEnding("mab", "map"), 1);
        due.is("vowels of one sound are not one ending", lowestOfEnding("mi", "my"), 1);
        due.is("more behind the vowel", lowestOfEnding("ma", "mab"), 1);
        due.is("ten letters from the first on", lowestOfEnding("abbbbbbbbb", "ob"), 1);
        CradleNames x = new CradleNames();
        x.name(Due.letters("otto"), 2);
        x.name(Due.letters("anna"), 1);
        x.name(Due.letters("lena"), 1);
        x.name(Due.letters("bruno"), 2);
        due.is("the lowest, of the lowest", x.of(1, 2), 1);
        due.is("the lowest, of the next", x.of(2, 2), 1);
        due.is("the lowest of o", x.of(3, 2), 0);
    }

    private static int sounds(String word) {
        CradleNames x = new CradleNames();
        x.name(Due.letters(word), 1);
        return x.of(0, 3);
    }

    /** "SOUNDS: of each letter ..; the others each by itself; of like SOUNDS beside one another one counts" */
    private static void sounds() {
        String[] groups = {"bpvf", "dt", "gkcq", "szx", "mn", "iye", "ouw", "a", "h", "j", "l", "r"};
        int letters = 0;
        for (String group : groups) {
            letters += group.length();
            for (char a : group.toCharArray()) {
                for (String other : groups) {
                    for (char b : other.toCharArray()) {
                        due.is("sounds of " + a + b, sounds("" + a + b), group.equals(other) ? 1 : 2);
                    }
                }
            }
        }
        due.is("each letter has one", letters, 26);
        due.is("like ones beside one another", sounds("bpvfbpvfbp"), 1);
        due.is("like ones apart", sounds("bab"), 3);
        due.is("ten unlike ones", sounds("adgsmiohjl"), 10);
        due.is("like ones at the end", sounds("adgsmiohjj"), 9);
        due.is("two beside two", sounds("bbdd"), 2);
    }

    private static void alike(String one, String other, int want) {
        CradleNames x = new CradleNames();
        x.name(Due.letters(one), 1);
        x.name(Due.letters(other), 1);
        due.is(one + " and " + other, x.alike(0, 1), want);
        due.is(other + " and " + one, x.alike(1, 0), want);
    }

    /** "ALIKE, if by changing, adding or taking away one SOUND at most the SOUNDS of the one are those of the other" */
    private static void likeness() {
        alike("bada", "pata", 1);
        alike("bb", "pp", 1);
        alike("bb", "dd", 1);
        alike("bb", "bd", 1);
        alike("bb", "db", 1);
        alike("bb", "da", 0);
        alike("bb", "bab", 0);
        alike("hada", "jada", 1);
        alike("hada", "hala", 1);
        alike("hadal", "hadar", 1);
        alike("hadal", "jadar", 0);
        alike("hadal", "hjdrl", 0);
        alike("hada", "hadal", 1);
        alike("hada", "lhada", 1);
        alike("hada", "halda", 1);
        alike("hada", "lhadal", 0);
        alike("hada", "hadalr", 0);
        alike("hada", "jadal", 0);
        alike("hala", "ahal", 0);
        alike("lalala", "alalal", 0);
        alike("lalala", "lalal", 1);
        alike("adgsmiohjl", "adgsmiohjr", 1);
        alike("adgsmiohjl", "rdgsmiohjl", 1);
        alike("adgsmiohjl", "adgsmiohj", 1);
        alike("adgsmiohjl", "adgsmioh", 0);
        alike("adgsmiohjl", "dgsmiohjl", 1);
        alike("adgsmiohjl", "dgsmiohjla", 0);
    }

    /** "LIVING at YEAR y are those born in y - LIFE + 1 .. y", "LIFE (20 .. 90 YEARS; at first 60)" */
    private static void living(int life, int ago, int years, int want) {
        CradleNames x = new CradleNames();
        x.name(Due.letters("anna"), 1);
        if (life != 60) {
            x.life(life);
        }
        x.born(0, 0, 0, 0, ago, 7);
        for (int i = 0; i < years; i++) {
            x.years(1);
        }
        due.is("life " + life + ", born " + ago + " ago, at clock " + years, x.of(0, 4), want);
        due.is("an age as well", x.age(0, 100, 0), want == 0 ? -1000 : -ago);
        due.is("a guess as well", x.guess(0), want == 0 ? -1 : 0);
        Due.taste(x, "worth all*100+girls;");
        x.by(0, 0);
        // A word is of the clock's year, one behind the year gone by last.
        int then = years - life + 1 <= -ago ? 7 : 0;
        due.is("as a word", x.now(0, 0, 0, 100), then * 101);
    }

    private static void living() {
        living(20, 20, 0, 7);
        living(20, 21, 0, 0);
        living(20, 20, 1, 0);
        living(20, 19, 1, 7);
        living(20, 19, 2, 0);
        living(60, 40, 20, 7);
        living(60, 40, 21, 0);
        living(90, 40, 50, 7);
        living(90, 40, 51, 0);
        living(90, 1, 60, 7);
        living(60, 1, 59, 7);
        living(60, 1, 60, 0);
    }

    /** "CRADLES of a PLACE, STANDING, SEX (0 .. 6 a YEAR; at first 0)" */
    private static void cradles() {
        CradleNames x = new CradleNames();
        x.name(Due.letters("anna"), 3);
        x.taste();
        x.by(0, 0);
        x.by(1, 0);
        x.years(1);
        due.is("at first none", x.given(0, -1, -1, -1, -1), 0);
        due.is("and none unnamed", x.unnamed(0), 0);
        for (int row = 0; row < 12; row++) {
            due.is("six", x.cradles(row / 4, row / 2 % 2, row % 2, 6), true);
        }
        x.years(1);
        due.is("72 in all", x.given(1, -1, -1, -1, 0), 72);
        for (int row = 0; row < 12; row++) {
            due.is("six in each", x.given(1, row / 4, row / 2 % 2, row % 2, 0), 6);
            due.is("none from now on", x.cradles(row / 4, row / 2 % 2, row % 2, 0), true);
        }
        x.years(1);
        due.is("none again", x.given(2, -1, -1, -1, -1), 0);
        due.is("those that were stay", x.given(1, 2, 1, 1, 0), 6);
        due.is("two standings of a place and sex", x.span(1, 2, 1, 0, true), 12);
    }

    private static CradleNames three() {
        CradleNames x = new CradleNames();
        x.name(Due.letters("ab"), 3);
        x.name(Due.letters("abc"), 3);
        x.name(Due.letters("abcd"), 3);
        x.taste();
        x.by(0, 0);
        return x;
    }

    private static void listed(String what, CradleNames x, int set) {
        int got = 0;
        for (int i = 0; i < x.about(1); i++) {
            got |= x.now(0, 0, 0, 200 + i) << i;
        }
        due.is(what, got, set);
    }

    /** "LISTS (8 at most): .. in a YEAR the latest told of those whose YEAR has come counts" */
    private static void lists() {
        CradleNames x = three();
        listed("without a list all", x, 7);
        x.list(1, 4);
        listed("its year has not come", x, 7);
        x.list(3, 2);
        x.years(1);
        listed("its year has come", x, 4);
        x.list(1, 1);
        listed("of one year the latest told", x, 1);
        x.years(1);
        listed("the year ahead of the other's", x, 1);
        x.years(1);
        listed("told earlier, though of a later year", x, 1);
        x.list(3, 6);
        listed("told latest", x, 6);
        x.list(60, 1);
        x.years(20);
        x.years(20);
        x.years(16);
        due.is("the clock", x.about(0), 59);
        listed("the year ahead of 60", x, 6);
        x.years(1);
        listed("in 60", x, 1);
    }

    /** "the empty set, also what is left empty by NAMES that there aren't: all; without a LIST all" */
    private static void emptyLists() {
        CradleNames x = three();
        x.list(0, 1);
        listed("one", x, 1);
        x.list(0, 0);
        listed("the empty set", x, 7);
        x.list(0, 2);
        x.list(0, 8);
        listed("a name that there isn't", x, 7);
        x.list(0, 4);
        x.list(0, 0xffff0000);
        listed("names that there never are", x, 7);
        x.list(0, Integer.MIN_VALUE | 2);
        listed("the highest bit does not count", x, 2);
        x.list(0, -1);
        listed("all bits", x, 7);
        CradleNames none = new CradleNames();
        due.is("a list ahead of any name", none.list(0, -1), 1);
        none.name(Due.letters("ab"), 3);
        none.taste();
        none.by(0, 0);
        listed("it is empty, so all", none, 1);
        CradleNames late = three();
        late.list(0, 0xfffc);
        late.name(Due.letters("abcde"), 3);
        listed("a name told behind it is not on it", late, 4);
    }

    /** "FILM of a NAME in YEAR y: of its FILMS with a YEAR of y or ahead POINTS / 2 to the (y - YEAR), cut each" */
    private static void films() {
        CradleNames x = new CradleNames();
        x.name(Due.letters("ab"), 3);
        x.name(Due.letters("cd"), 3);
        Due.taste(x, "worth film;");
        x.by(0, 0);
        due.is("without any", x.now(0, 0, 0, 100), 0);
        x.film(0, 1, 999);
        x.film(0, 1, 1);
        x.film(0, 2, 3);
        x.film(0, 2, 3);
        x.film(1, 1, 512);
        x.film(1, 60, 999);
        int[] ofZero = {0, 1000, 499 + 3 + 3, 249 + 1 + 1, 124, 62, 31, 15, 7, 3, 1, 0, 0};
        int[] ofOne = {0, 512, 256, 128, 64, 32, 16, 8, 4, 2, 1, 0, 0};
        for (int y = 0; y < 13; y++) {
            due.is("film of 0 in " + y, x.now(0, 0, 0, 100), ofZero[y]);
            due.is("film of 1 in " + y, x.now(0, 0, 0, 101), ofOne[y]);
            x.years(1);
        }
        // Shifts wrap around at 32 and 64, halves do not.
        for (int y = 13; y < 60; y++) {
            due.is("film of 0 in " + y, x.now(0, 0, 0, 100), 0);
            due.is("film of 1 in " + y, x.now(0, 0, 0, 101), 0);
            x.years(1);
        }
        due.is("film of 1 in 60", x.now(0, 0, 0, 101), 999);
        due.is("a seventh in 60", x.film(0, 60, 7), 6);
        due.is("the last one", x.film(0, 60, 999), 7);
        due.is("it counts", x.now(0, 0, 0, 100), 1006);
        due.is("a ninth", x.film(0, 60, 1), -1);
        due.is("it does not", x.now(0, 0, 0, 100), 1006);
    }

    public static void main(String[] args) {
        clock();
        letters();
        sixteen();
        fromTheYearTold();
        endings();
        sounds();
        likeness();
        living();
        cradles();
        lists();
        emptyLists();
        films();
        due.end();
    }
}
