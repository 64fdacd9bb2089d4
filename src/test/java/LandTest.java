/** Promises 5 to 9: born, life, cradles, list, film. */
public final class LandTest {
    private static final Due due = new Due();

    private static CradleNames land() {
        CradleNames x = new CradleNames();
        x.name(Due.letters("ab"), 1);
        x.name(Due.letters("abc"), 3);
        x.name(Due.letters("abcd"), 2);
        return x;
    }

    private static void born() {
        CradleNames x = land();
        due.is("born", x.born(0, 2, 1, 0, 40, 99), 99);
        due.is("born again", x.born(0, 2, 1, 0, 40, 1), 100);
        due.is("another place", x.born(0, 1, 1, 0, 40, 1), 1);
        due.is("another standing", x.born(0, 2, 0, 0, 40, 1), 1);
        due.is("a name that is not for the sex", x.born(0, 2, 1, 1, 40, 3), 3);
        due.is("another name", x.born(1, 2, 1, 0, 40, 4), 4);
        due.is("all", x.given(-40, -1, -1, -1, -1), 109);
        due.is("ago 0", x.born(0, 0, 0, 0, 0, 1), -1);
        due.is("ago 41", x.born(0, 0, 0, 0, 41, 1), -1);
        due.is("n 0", x.born(0, 0, 0, 0, 1, 0), -1);
        due.is("n 100", x.born(0, 0, 0, 0, 1, 100), -1);
        due.is("place 3", x.born(0, 3, 0, 0, 1, 1), -1);
        due.is("place -1", x.born(0, -1, 0, 0, 1, 1), -1);
        due.is("standing 2", x.born(0, 0, 2, 0, 1, 1), -1);
        due.is("standing -1", x.born(0, 0, -1, 0, 1, 1), -1);
        due.is("sex 2", x.born(0, 0, 0, 2, 1, 1), -1);
        due.is("sex -1", x.born(0, 0, 0, -1, 1, 1), -1);
        due.is("name 3", x.born(3, 0, 0, 0, 1, 1), -1);
        due.is("name -1", x.born(-1, 0, 0, 0, 1, 1), -1);
        for (int i = 1; i <= 101; i++) {
            due.is("99 more", x.born(2, 0, 0, 1, 7, 99), 99 * i);
        }
        due.is("above 9999", x.born(2, 0, 0, 1, 7, 1), -1);
        due.is("it stays", x.given(-7, 0, 0, 1, 2), 9999);
        x.years(1);
        due.is("behind clock 0", x.born(0, 0, 0, 0, 1, 1), -1);
    }

    private static void life() {
        CradleNames x = land();
        due.is("19", x.life(19), false);
        due.is("20", x.life(20), true);
        due.is("about", x.about(7), 20);
        due.is("91", x.life(91), false);
        due.is("90", x.life(90), true);
        due.is("-60", x.life(-60), false);
        due.is("about", x.about(7), 90);
        x.years(1);
        due.is("behind clock 0", x.life(60), false);
        due.is("about", x.about(7), 90);
    }

    private static void cradles() {
        CradleNames x = land();
        Due.taste(x, "");
        x.by(0, 0);
        x.by(1, 0);
        due.is("six", x.cradles(2, 1, 1, 6), true);
        due.is("seven", x.cradles(2, 1, 1, 7), false);
        due.is("below 0", x.cradles(2, 1, 1, -1), false);
        due.is("place 3", x.cradles(3, 0, 0, 1), false);
        due.is("place -1", x.cradles(-1, 0, 0, 1), false);
        due.is("standing 2", x.cradles(0, 2, 0, 1), false);
        due.is("standing -1", x.cradles(0, -1, 0, 1), false);
        due.is("sex 2", x.cradles(0, 0, 2, 1), false);
        due.is("sex -1", x.cradles(0, 0, -1, 1), false);
        x.years(1);
        due.is("from now on two", x.cradles(2, 1, 1, 2), true);
        x.years(2);
        due.is("then none", x.cradles(2, 1, 1, 0), true);
        x.years(1);
        due.is("year 0", x.given(0, 2, 1, 1, -1), 6);
        due.is("year 1", x.given(1, 2, 1, 1, -1), 2);
        due.is("year 2", x.given(2, -1, -1, -1, -1), 2);
        due.is("year 3", x.given(3, -1, -1, -1, -1), 0);
    }

    private static void lists() {
        CradleNames x = land();
        Due.taste(x, "");
        x.by(0, 0);
        x.cradles(0, 0, 1, 1);
        due.is("a boys' name without a list", x.now(0, 0, 1, 0), 1);
        due.is("a list", x.list(1, 0b100), 1);
        due.is("its year has not come", x.now(0, 0, 1, 0), 1);
        due.is("to 60", x.list(60, 1), 2);
        due.is("61", x.list(61, 1), -1);
        due.is("ahead of the clock", x.list(-1, 1), -1);
        x.years(1);
        due.is("its year has come", x.now(0, 0, 1, 0), 2);
        due.is("off it", x.now(0, 0, 1, 201), 0);
        due.is("of girls none is on it", x.now(0, 0, 0, 0), -1);
        due.is("the empty set", x.list(1, 0), 3);
        due.is("all", x.now(0, 0, 1, 0), 1);
        due.is("names that there are not", x.list(1, 0xfff8), 4);
        due.is("all again", x.now(0, 0, 1, 0), 1);
        x.name(Due.letters("dd"), 3);
        due.is("nor does one told later count", x.now(0, 0, 1, 201), 1);
        due.is("of some names one is there", x.list(1, -1 << 2), 5);
        due.is("that one", x.now(0, 0, 1, 202), 1);
        due.is("the later one too", x.now(0, 0, 1, 203), 1);
        due.is("the first is off", x.now(0, 0, 1, 201), 0);
        due.is("a list for a later year, told later", x.list(3, 0b10), 6);
        due.is("for an earlier year, told latest", x.list(2, 0b100), 7);
        x.years(3);
        due.is("the latest told of those that came", x.now(0, 0, 1, 0), 2);
        due.is("ahead of the clock 4", x.list(3, 1), -1);
        due.is("the eighth", x.list(4, 1), 8);
        due.is("a ninth", x.list(4, 1), -1);
        due.is("about", x.about(2), 8);
    }

    private static void films() {
        CradleNames x = land();
        Due.taste(x, "worth film;");
        x.by(0, 0);
        due.is("a film", x.film(1, 0, 999), 0);
        due.is("points 0", x.film(1, 0, 0), -1);
        due.is("points 1000", x.film(1, 0, 1000), -1);
        due.is("year 61", x.film(1, 61, 1), -1);
        due.is("year -1", x.film(1, -1, 1), -1);
        due.is("name 3", x.film(3, 0, 1), -1);
        due.is("name -1", x.film(-1, 0, 1), -1);
        due.is("another of the name", x.film(1, 1, 3), 1);
        due.is("year 0", x.now(0, 0, 0, 101), 999);
        x.years(1);
        due.is("year 1, each cut", x.now(0, 0, 0, 101), 499 + 3);
        x.years(1);
        due.is("year 2", x.now(0, 0, 0, 101), 249 + 1);
        due.is("ahead of the clock", x.film(1, 1, 3), -1);
        x.years(7);
        due.is("year 9", x.now(0, 0, 0, 101), 1);
        x.years(1);
        due.is("year 10", x.now(0, 0, 0, 101), 0);
        x.years(20);
        x.years(3);
        due.is("year 33", x.now(0, 0, 0, 101), 0);
        for (int i = 2; i < 8; i++) {
            due.is("film " + i, x.film(0, 60, i), i);
        }
        due.is("a ninth", x.film(0, 60, 1), -1);
        due.is("about", x.about(3), 8);
    }

    public static void main(String[] args) {
        born();
        life();
        cradles();
        lists();
        films();
        due.end();
    }
}
