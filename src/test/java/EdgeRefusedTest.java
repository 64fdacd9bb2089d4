/** A call that is refused changes nothing, and one that only asks neither; what is full stays as it is. */
public final class EdgeRefusedTest {
    private static final int MIN = Integer.MIN_VALUE;
    private static final int MAX = Integer.MAX_VALUE;
    private static final Due due = new Due();

    /** A land at clock 0 with something told of every kind, and ten bytes on the tape. */
    private static CradleNames atZero() {
        CradleNames x = new CradleNames();
        x.name(Due.letters("anna"), 1);
        x.name(Due.letters("bruno"), 2);
        x.name(Due.letters("kim"), 3);
        x.name(Due.letters("ida"), 1);
        x.life(33);
        x.born(0, 0, 0, 0, 40, 9);
        x.born(2, 1, 1, 1, 1, 4);
        for (int row = 0; row < 12; row++) {
            x.cradles(row / 4, row / 2 % 2, row % 2, row % 4);
        }
        x.list(9, 7);
        x.film(2, 1, 50);
        Due.taste(x, "worth sound+film-near;bar near>3;");
        Due.taste(x, "worth gone-all;past 3;");
        x.by(0, 0);
        x.by(1, 1);
        x.print(0, 2, 1, 1, 0);
        x.print(1, 0, 1, 2, 0);
        x.image();
        Due.taste(x, "worth 123456;");
        Due.write(x, "worth far;");
        return x;
    }

    private static CradleNames later() {
        CradleNames x = atZero();
        x.years(4);
        x.print(2, 1, 1, 1, 1);
        x.image();
        return x;
    }

    /** Sixteen names, eight lists, eight films, six tastes, 150 rows, a full tape, clock 61. */
    private static CradleNames full() {
        CradleNames x = atZero();
        for (int i = 4; i < 16; i++) {
            x.name(Due.letters("b" + (char) ('a' + i)), 3);
        }
        for (int i = 1; i < 8; i++) {
            x.list(10 * i - 10, 0xfff << i);
            x.film(i, 5 * i, 100 * i);
        }
        for (int i = 2; i < 6; i++) {
            Due.taste(x, "worth long*" + i + "-near;");
        }
        for (int i = 2; i < 150; i++) {
            x.print(i % 61, i % 3, i % 2, i % 16, 0);
        }
        x.years(20);
        x.years(20);
        x.years(20);
        x.years(1);
        for (int i = 0; i < 15; i++) {
            x.feed(MAX, i, 0, 1, 2);
        }
        x.image();
        return x;
    }

    private static void refuseAnywhere(CradleNames x) {
        due.is("name: the same letters", x.name(Due.letters("anna"), 3), -1);
        due.is("name: no letters", x.name(0, 3), -1);
        due.is("name: no sex", x.name(Due.letters("ole"), 0), -1);
        due.is("born: 0", x.born(0, 0, 0, 0, 1, 0), -1);
        due.is("born: ago 41", x.born(0, 0, 0, 0, 41, 1), -1);
        due.is("born: name", x.born(MAX, 0, 0, 0, 1, 1), -1);
        due.is("life: 19", x.life(19), false);
        due.is("life: 91", x.life(91), false);
        due.is("cradles: 7", x.cradles(0, 0, 0, 7), false);
        due.is("cradles: -1", x.cradles(0, 0, 0, -1), false);
        due.is("cradles: place", x.cradles(MIN, 0, 0, 1), false);
        due.is("list: 61", x.list(61, 3), -1);
        due.is("list: -1", x.list(-1, 3), -1);
        due.is("film: name", x.film(16, 60, 3), -1);
        due.is("film: 61", x.film(0, 61, 3), -1);
        due.is("film: points", x.film(0, 60, 0), -1);
        due.is("end: -1", x.end(-1), -1);
        due.is("end: 301", x.end(301), -1);
        due.is("by: standing", x.by(2, 0), false);
        due.is("by: taste", x.by(0, 6), false);
        due.is("by: -2", x.by(1, -2), false);
        due.is("years: 0", x.years(0), -1);
        due.is("years: 21", x.years(21), -1);
        due.is("years: least", x.years(MIN), -1);
        due.is("years: greatest", x.years(MAX), -1);
        due.is("print: n", x.print(0, 0, 0, 0, 100), -1);
        due.is("print: year", x.print(61, 0, 0, 0, 1), -1);
    }

    private static void stays(String what, CradleNames told, CradleNames untold) {
        due.is(what + ": refused calls change nothing", Sight.of(told).equals(Sight.of(untold)), true);
        due.is(what + ": asking changes nothing", Sight.of(told).equals(Sight.of(untold)), true);
        told.back();
        untold.back();
        due.is(what + ": nor THE IMAGE", Sight.of(told).equals(Sight.of(untold)), true);
    }

    private static void refusedAtZero() {
        CradleNames x = atZero();
        refuseAnywhere(x);
        due.is("end: beyond what it has", x.end(11), -1);
        due.is("by: a taste that isn't", x.by(0, 2), false);
        stays("at 0", x, atZero());
        due.is("the tape has its bytes", x.taste(), 2);
        due.is("without a fault", x.fault(0), 0);
    }

    private static void refusedLater() {
        CradleNames x = later();
        refuseAnywhere(x);
        due.is("born behind clock 0", x.born(0, 0, 0, 0, 1, 1), -1);
        due.is("life behind clock 0", x.life(60), false);
        due.is("a list ahead of the clock", x.list(3, 3), -1);
        due.is("a film ahead of the clock", x.film(0, 3, 3), -1);
        stays("at 4", x, later());
    }

    private static void refusedWhenFull() {
        CradleNames x = full();
        due.is("the clock", x.about(0), 61);
        refuseAnywhere(x);
        due.is("a 17th name", x.name(Due.letters("ole"), 3), -1);
        due.is("a ninth list", x.list(60, 1), -1);
        due.is("a ninth film", x.film(0, 60, 1), -1);
        due.is("a seventh taste", x.taste(), -1);
        due.is("the tape stays", x.about(6), 300);
        due.is("twenty bytes more", x.feed(0, 0, 0, 0, 0), -1);
        due.is("row 151", x.print(0, 0, 0, 0, 0), -1);
        due.is("year 61", x.years(1), -1);
        stays("full", x, full());
    }

    /** The 9999th one is taken, and one more neither counts nor takes away. */
    private static void bornUpTo9999() {
        CradleNames x = atZero();
        for (int i = 0; i < 100; i++) {
            x.born(1, 0, 0, 0, 3, 99);
        }
        due.is("9900 and 98", x.born(1, 0, 0, 0, 3, 98), 9998);
        due.is("two more", x.born(1, 0, 0, 0, 3, 2), -1);
        due.is("it stays", x.given(-3, 0, 0, 0, 1), 9998);
        due.is("the living stay", x.of(1, 4), 9998);
        due.is("one more", x.born(1, 0, 0, 0, 3, 1), 9999);
        due.is("and no more", x.born(1, 0, 0, 0, 3, 1), -1);
        due.is("the living", x.of(1, 4), 9999);
        due.is("another sex", x.born(1, 0, 0, 1, 3, 99), 99);
        due.is("another standing", x.born(1, 0, 1, 0, 3, 99), 99);
        due.is("another place", x.born(1, 1, 0, 0, 3, 99), 99);
        due.is("another year", x.born(1, 0, 0, 0, 2, 99), 99);
        due.is("another name", x.born(0, 0, 0, 0, 3, 99), 99);
        due.is("all of the year", x.given(-3, -1, -1, -1, 1), 9999 + 3 * 99);
    }

    /** What was full has room again behind going back. */
    private static void roomBehindBack() {
        CradleNames x = new CradleNames();
        x.name(Due.letters("anna"), 1);
        x.image();
        for (int round = 0; round < 2; round++) {
            for (int i = 1; i < 16; i++) {
                due.is("name " + i, x.name(Due.letters("b" + (char) ('a' + i)), 3), i);
            }
            due.is("a 17th name", x.name(Due.letters("ole"), 3), -1);
            for (int i = 0; i < 8; i++) {
                due.is("list " + i, x.list(0, 1), i + 1);
                due.is("film " + i, x.film(0, 0, 1), i);
            }
            due.is("a ninth list", x.list(0, 1), -1);
            due.is("a ninth film", x.film(0, 0, 1), -1);
            for (int i = 0; i < 6; i++) {
                due.is("taste " + i, x.taste(), i);
            }
            due.is("a seventh taste", x.taste(), -1);
            for (int i = 1; i <= 150; i++) {
                due.is("row " + i, x.print(0, 0, 0, 0, 0), i);
            }
            due.is("row 151", x.print(0, 0, 0, 0, 0), -1);
            due.is("back", x.back(), 0);
        }
    }

    public static void main(String[] args) {
        refusedAtZero();
        refusedLater();
        refusedWhenFull();
        bornUpTo9999();
        roomBehindBack();
        due.end();
    }
}
