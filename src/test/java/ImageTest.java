/** Promises 37 to 39: image, back, about. */
public final class ImageTest {
    private static final Due due = new Due();

    private static CradleNames told() {
        CradleNames x = new CradleNames();
        x.life(33);
        x.name(Due.letters("ab"), 1);
        x.name(Due.letters("cd"), 1);
        x.born(0, 0, 0, 0, 2, 4);
        Due.taste(x, "worth near;");
        x.by(0, 0);
        x.cradles(0, 0, 0, 3);
        x.list(2, 1);
        x.film(1, 2, 9);
        x.print(0, 0, 0, 0, 3);
        return x;
    }

    private static void tellMore(CradleNames x) {
        x.life(44);
        x.name(Due.letters("ef"), 1);
        x.born(0, 0, 0, 0, 2, 5);
        x.born(1, 1, 1, 1, 9, 5);
        Due.taste(x, "worth far;");
        x.by(0, 1);
        x.by(1, 0);
        x.cradles(0, 0, 0, 6);
        x.cradles(2, 1, 1, 1);
        x.list(x.about(0), 2);
        x.film(0, x.about(0), 900);
        x.print(0, 0, 0, 0, 77);
    }

    private static void isTold(String when, CradleNames x, int clock) {
        int[] want = {clock, 2, 1, 1, 1, 1};
        for (int what = 0; what < want.length; what++) {
            due.is(when + ": about(" + what + ")", x.about(what), want[what]);
        }
        due.is(when + ": life", x.about(7), 33);
        due.is(when + ": upper", x.about(10), 0);
        due.is(when + ": lower", x.about(11), -1);
        due.is(when + ": cradles", x.about(20), 3);
        due.is(when + ": other cradles", x.about(31), 0);
        due.is(when + ": told rows", x.given(-2, -1, -1, -1, -1), 4);
        due.is(when + ": other told rows", x.given(-9, -1, -1, -1, -1), 0);
        due.is(when + ": let", x.let(-1, 61), 1);
    }

    private static void atZero() {
        CradleNames x = told();
        due.is("image at 0", x.image(), 0);
        tellMore(x);
        x.years(5);
        tellMore(x);
        due.is("back to 0", x.back(), 0);
        isTold("back to 0", x, 0);
        due.is("worth of what was told", x.now(0, 0, 0, 100), 4);
        due.is("born goes on", x.born(0, 0, 0, 0, 2, 1), 5);
        due.is("the name is free again", x.name(Due.letters("ef"), 2), 2);
        due.is("it is the new one", x.of(2, 1), 2);
        due.is("the image stays", x.back(), 0);
        isTold("back once more", x, 0);
    }

    private static void later() {
        CradleNames x = told();
        x.years(3);
        int inTwo = x.given(2, -1, -1, -1, 0);
        int living = x.of(0, 4);
        due.is("image at 3", x.image(), 3);
        tellMore(x);
        x.years(4);
        due.is("more went by", x.about(0), 7);
        due.is("back to 3", x.back(), 3);
        isTold("back to 3", x, 3);
        due.is("year 2", x.given(2, -1, -1, -1, 0), inTwo);
        due.is("year 3 has not gone by", x.given(3, -1, -1, -1, 0), -1);
        due.is("living", x.of(0, 4), living);
        due.is("years go by as told then", x.years(1), 4);
        due.is("year 3", x.given(3, 0, 0, 0, 0), 3);
        due.is("year 3 of all", x.given(3, -1, -1, -1, -1), 3);
        due.is("nothing unnamed", x.unnamed(-1), 0);
        due.is("a later image", x.image(), 4);
        x.years(2);
        due.is("back to the later one", x.back(), 4);
    }

    /** How long ago each name was given is as it was. */
    private static void gone() {
        CradleNames x = new CradleNames();
        x.name(Due.letters("ab"), 1);
        x.name(Due.letters("abc"), 1);
        x.name(Due.letters("abcd"), 1);
        x.born(0, 0, 0, 0, 40, 1);
        x.born(2, 0, 0, 0, 40, 2);
        Due.taste(x, "bar long#2;worth gone;");
        Due.taste(x, "bar long#3;worth gone;");
        Due.taste(x, "bar long#4;worth gone;");
        x.cradles(0, 0, 0, 1);
        Due.year(x, 1, -1);
        x.image();
        Due.year(x, 0, -1);
        Due.year(x, 1, -1);
        x.back();
        x.by(0, 0);
        due.is("at -40", x.now(0, 0, 0, 100), 41);
        due.is("at 0", x.now(0, 0, 0, 101), 1);
        due.is("two at -40", x.now(0, 0, 0, 102), 41);
    }

    private static void atTheEnd() {
        CradleNames x = told();
        x.years(20);
        x.years(20);
        x.years(20);
        x.years(1);
        due.is("image at 61", x.image(), 61);
        due.is("back to 61", x.back(), 61);
        due.is("year 60", x.given(60, -1, -1, -1, -1), 3);
        due.is("living", x.of(0, 4), 99);
    }

    private static void tapeAndFault() {
        CradleNames x = told();
        x.image();
        due.is("a fault", Due.taste(x, "worth 12345;"), -1);
        Due.write(x, "worth 1;");
        x.back();
        due.is("the fault stays", x.fault(0), 2);
        due.is("its place stays", x.fault(1), 6);
        due.is("the tape stays", x.about(6), 8);
        due.is("it can be read", x.taste(), 1);
        due.is("no fault", x.fault(0), 0);
        x.back();
        due.is("the taste is gone", x.about(4), 1);
        due.is("by it", x.by(0, 1), false);
        due.is("still no fault", x.fault(0), 0);
        due.is("another in its stead", Due.taste(x, "worth 0-long;"), 1);
        x.by(0, 1);
        due.is("it is the new one", x.now(0, 0, 0, 100), -2);
    }

    private static void about() {
        CradleNames x = told();
        for (int i = 0; i < 12; i++) {
            x.cradles(i / 4, i / 2 % 2, i % 2, i % 7);
        }
        for (int i = 0; i < 12; i++) {
            due.is("about(" + (20 + i) + ")", x.about(20 + i), i % 7);
        }
        for (int what : new int[] {-1, 8, 9, 12, 19, 32, Integer.MAX_VALUE, Integer.MIN_VALUE}) {
            due.is("about(" + what + ")", x.about(what), -1);
        }
    }

    public static void main(String[] args) {
        atZero();
        later();
        gone();
        atTheEnd();
        tapeAndFault();
        about();
        due.end();
    }
}
