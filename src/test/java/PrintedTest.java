/** Promises 33 to 36: print, let, span, parts. */
public final class PrintedTest {
    private static final Due due = new Due();

    private static void print() {
        CradleNames x = new CradleNames();
        due.is("no names", x.print(0, 0, 0, 0, 0), -1);
        x.name(Due.letters("ab"), 1);
        due.is("year 61", x.print(61, 0, 0, 0, 0), -1);
        due.is("year -1", x.print(-1, 0, 0, 0, 0), -1);
        due.is("place 3", x.print(0, 3, 0, 0, 0), -1);
        due.is("place -1", x.print(0, -1, 0, 0, 0), -1);
        due.is("sex 2", x.print(0, 0, 2, 0, 0), -1);
        due.is("sex -1", x.print(0, 0, -1, 0, 0), -1);
        due.is("name 1", x.print(0, 0, 0, 1, 0), -1);
        due.is("name -1", x.print(0, 0, 0, -1, 0), -1);
        due.is("n 100", x.print(0, 0, 0, 0, 100), -1);
        due.is("n -1", x.print(0, 0, 0, 0, -1), -1);
        for (int i = 1; i <= 150; i++) {
            due.is("row " + i, x.print(i % 61, i % 3, i % 2, 0, i % 100), i);
        }
        due.is("row 151", x.print(0, 0, 0, 0, 0), -1);
        due.is("about", x.about(5), 150);
    }

    /** Three names; taste 0 brings 0, taste 1 brings 1, taste 2 brings 0 up to 2 and then 2. */
    private static CradleNames three() {
        CradleNames x = new CradleNames();
        x.name(Due.letters("ab"), 3);
        x.name(Due.letters("abc"), 3);
        x.name(Due.letters("abcd"), 3);
        Due.taste(x, "bar long#2;");
        Due.taste(x, "bar long#3;");
        Due.taste(x, "worth (long-3)*(year-2);bar long=3;");
        x.cradles(1, 0, 0, 2);
        x.cradles(1, 1, 0, 1);
        x.cradles(2, 1, 1, 4);
        return x;
    }

    private static void let() {
        CradleNames x = new CradleNames();
        due.is("no tastes", x.let(-1, 0), 0);
        due.is("taste 0 of none", x.let(0, 0), -1);
        x = three();
        due.is("all", x.let(-1, 0), 3);
        due.is("taste 3", x.let(3, 0), -1);
        due.is("taste -2", x.let(-2, 0), -1);
        due.is("known -1", x.let(0, -1), -1);
        due.is("known 62", x.let(0, 62), -1);
        due.is("known 61", x.let(0, 61), 1);
        x.print(1, 1, 0, 0, 3);
        due.is("0, both standings", x.let(0, 0), 1);
        due.is("1", x.let(1, 0), 0);
        due.is("2", x.let(2, 0), 1);
        due.is("two", x.let(-1, 0), 2);
        x.years(2);
        x.print(60, 2, 1, 2, 4);
        due.is("0 as known at 1", x.let(0, 1), 1);
        due.is("0 as known at 2", x.let(0, 2), 0);
        due.is("2 as known at 2", x.let(2, 2), 1);
        due.is("2 as known at 61", x.let(2, 61), 1);
        due.is("one", x.let(-1, 2), 1);
        x.print(60, 2, 1, 2, 3);
        due.is("none", x.let(-1, 2), 0);
        due.is("two as known at 1", x.let(-1, 1), 2);
    }

    private static void span() {
        CradleNames x = three();
        due.is("least", x.span(0, 1, 0, 0, false), 0);
        due.is("greatest", x.span(0, 1, 0, 0, true), 3);
        due.is("boys", x.span(60, 2, 1, 2, true), 4);
        due.is("elsewhere", x.span(60, 0, 0, 2, true), 0);
        due.is("2 at 2", x.span(2, 1, 0, 0, true), 3);
        due.is("2 at 3", x.span(3, 1, 0, 2, true), 3);
        due.is("2 at 2, ties to the lowest", x.span(2, 1, 0, 2, true), 0);
        due.is("year 61", x.span(61, 1, 0, 0, true), -1);
        due.is("year -1", x.span(-1, 1, 0, 0, true), -1);
        due.is("place 3", x.span(0, 3, 0, 0, true), -1);
        due.is("place -1", x.span(0, -1, 0, 0, true), -1);
        due.is("sex 2", x.span(0, 1, 2, 0, true), -1);
        due.is("name 3", x.span(0, 1, 0, 3, true), -1);
        x.cradles(1, 0, 0, 6);
        due.is("cradles as told now", x.span(60, 1, 0, 0, true), 7);
        x.years(1);
        x.cradles(1, 0, 0, 1);
        due.is("as they were", x.span(0, 1, 0, 0, true), 7);
        due.is("as told now", x.span(1, 1, 0, 0, true), 2);
        x.print(0, 1, 0, 1, 7);
        due.is("only 1 is let", x.span(1, 1, 0, 1, false), 2);
        due.is("0 never", x.span(1, 1, 0, 0, true), 0);
        x.print(0, 1, 0, 1, 0);
        due.is("none is let", x.span(1, 1, 0, 0, true), -1);
        due.is("none parts", x.parts(1, 3), -1);
    }

    private static void changes() {
        CradleNames x = three();
        due.is("ahead of a list", x.span(5, 1, 0, 1, true), 3);
        x.list(5, 0b100);
        due.is("behind a list", x.span(5, 1, 0, 1, true), 0);
        due.is("ahead of its year", x.span(4, 1, 0, 1, true), 3);
        Due.taste(x, "worth film;");
        due.is("ahead of a film", x.span(1, 1, 0, 2, true), 0);
        x.film(2, 1, 5);
        due.is("behind a film", x.span(1, 1, 0, 2, true), 3);
        Due.taste(x, "worth all;");
        due.is("ahead of one born", x.let(4, 0), 1);
        x.print(0, 1, 0, 1, 0);
        due.is("0 is the lowest", x.let(4, 0), 1);
        x.born(1, 0, 0, 0, 30, 1);
        due.is("behind one born", x.let(4, 0), 0);
        x.life(30);
        due.is("it lives at 29 alone", x.let(4, 0), 1);
        x.name(Due.letters("xyzxyz"), 1);
        Due.taste(x, "bar long#6;");
        due.is("a name told now", x.span(0, 1, 0, 3, true), 3);
        x.years(3);
        x.name(Due.letters("xyzxy"), 1);
        due.is("by of a standing does not count", x.by(0, 1), true);
        due.is("a name from its year on", x.span(2, 1, 0, 4, true), 0);
    }

    private static void namesAndImages() {
        CradleNames x = new CradleNames();
        x.name(Due.letters("ab"), 1);
        Due.taste(x, "worth long;");
        x.cradles(0, 0, 0, 1);
        x.image();
        due.is("one name", x.span(0, 0, 0, 0, true), 1);
        x.name(Due.letters("abc"), 1);
        due.is("a longer name", x.span(0, 0, 0, 0, true), 0);
        x.back();
        due.is("it is gone", x.span(0, 0, 0, 0, true), 1);
        Due.taste(x, "bar long=2;");
        due.is("a second taste", x.let(1, 0), 1);
        x.print(0, 0, 0, 0, 1);
        due.is("it is not let", x.let(1, 0), 0);
        x.back();
        Due.taste(x, "worth 5;");
        x.print(0, 0, 0, 0, 1);
        due.is("another second taste is", x.let(1, 0), 1);
    }

    private static void parts() {
        CradleNames x = three();
        due.is("place", x.parts(0, 0), 2);
        due.is("sex", x.parts(0, 1), 1);
        due.is("name, of like ones the first", x.parts(0, 2), 0);
        due.is("how far", x.parts(0, 3), 4);
        x.cradles(1, 0, 1, 4);
        due.is("of like places the first", x.parts(0, 0), 1);
        due.is("its sex", x.parts(0, 1), 1);
        x.cradles(1, 0, 0, 3);
        due.is("of like sexes the first", x.parts(0, 1), 0);
        due.is("year 61", x.parts(61, 0), -1);
        due.is("year -1", x.parts(-1, 0), -1);
        due.is("what 4", x.parts(0, 4), -1);
        due.is("what -1", x.parts(0, -1), -1);
        x.print(0, 1, 0, 1, 0);
        due.is("0 and 2 do not part in 0", x.parts(0, 0), -1);
        due.is("nor how far", x.parts(0, 3), -1);
        due.is("in 3 they do", x.parts(3, 3), 4);
        due.is("by 0", x.parts(3, 2), 0);
        x.print(0, 1, 0, 0, 99);
        due.is("none is let", x.parts(3, 0), -1);
        CradleNames y = new CradleNames();
        y.name(Due.letters("ab"), 1);
        Due.taste(y, "");
        Due.taste(y, "bar 1=1;");
        y.cradles(0, 0, 0, 1);
        due.is("one apart", y.parts(0, 3), 1);
        due.is("by the first of all", y.parts(0, 0), 0);
    }

    public static void main(String[] args) {
        print();
        let();
        span();
        changes();
        namesAndImages();
        parts();
        due.end();
    }
}
