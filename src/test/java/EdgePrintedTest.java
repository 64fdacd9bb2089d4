/** The edges of part IV and of promises 33 to 39: printed rows, tastes that are let, spans, parts, the image. */
public final class EdgePrintedTest {
    private static final Due due = new Due();

    /** Names of two, three and four letters and a taste for each; a cradle a year, both standings of place 1. */
    private static CradleNames three() {
        CradleNames x = Due.pickers("ab", "abc", "abcd");
        x.cradles(1, 0, 0, 1);
        x.cradles(1, 1, 0, 1);
        return x;
    }

    /** "PRINTED (150 at most): that in a YEAR (0 .. 60), PLACE, to a SEX, a NAME was GIVEN n times (0 .. 99)" */
    private static void rows() {
        CradleNames x = three();
        due.is("year 60, n 99", x.print(60, 2, 1, 2, 99), 1);
        due.is("year 0, n 0", x.print(0, 0, 0, 0, 0), 2);
        due.is("the same row once more", x.print(0, 0, 0, 0, 0), 3);
        due.is("another n of the same", x.print(0, 0, 0, 0, 1), 4);
        for (int i = 5; i < 150; i++) {
            x.print(0, 0, 0, 0, 0);
        }
        due.is("149 of them", x.about(5), 149);
        due.is("the 150th", x.print(0, 0, 0, 0, 0), 150);
        due.is("the 151st", x.print(0, 0, 0, 0, 0), -1);
        due.is("150 of them", x.about(5), 150);
        CradleNames last = three();
        for (int i = 0; i < 149; i++) {
            last.print(0, 0, 0, 0, 0);
        }
        due.is("149 that are so", last.let(-1, 0), 3);
        last.print(60, 1, 0, 0, 2);
        due.is("the 150th counts", last.let(-1, 0), 1);
        last.print(60, 1, 0, 0, 0);
        due.is("the 151st does not", last.let(0, 0), 1);
        CradleNames none = new CradleNames();
        due.is("without names", none.print(0, 0, 0, 0, 0), -1);
    }

    /** "A TASTE is LET as KNOWN at k, if by the RUN BY it all that was PRINTED, TOLD at k or ahead, is so" */
    private static void known() {
        CradleNames x = three();
        due.is("nothing printed", x.let(-1, 0), 3);
        x.print(0, 1, 0, 0, 2);
        due.is("told at 0, as known at 0", x.let(-1, 0), 1);
        x.years(5);
        x.print(0, 1, 0, 0, 3);
        due.is("told at 5, as known at 4", x.let(0, 4), 1);
        due.is("told at 5, as known at 5", x.let(0, 5), 0);
        due.is("as known at 61", x.let(0, 61), 0);
        due.is("as known now", x.span(0, 1, 0, 0, true), -1);
        due.is("of all, as known at 4", x.let(-1, 4), 1);
        due.is("of all, as known at 5", x.let(-1, 5), 0);
        due.is("known -1", x.let(0, -1), -1);
        due.is("known 62", x.let(0, 62), -1);
        due.is("known -1, of all", x.let(-1, -1), -1);
        due.is("known 62, of all", x.let(-1, 62), -1);
        CradleNames y = three();
        y.print(60, 1, 0, 1, 2);
        due.is("a year that didn't go by yet", y.let(-1, 0), 1);
        due.is("by the one that brings it", y.let(1, 0), 1);
        y.print(60, 1, 1, 1, 0);
        due.is("boys got none", y.let(1, 0), 1);
        y.print(60, 0, 0, 1, 0);
        due.is("nor another place", y.let(1, 0), 1);
        y.print(60, 1, 0, 0, 0);
        due.is("nor another name", y.let(1, 0), 1);
        y.print(59, 1, 0, 1, 1);
        due.is("one less is not so", y.let(1, 0), 0);
        CradleNames none = new CradleNames();
        due.is("no tastes: none of them", none.let(-1, 61), 0);
        due.is("no tastes: 0", none.let(0, 0), -1);
    }

    /** "SPAN: the least and greatest GIVEN .. by RUNS BY TASTES that are LET"; "NONE .. if no TASTE is LET" */
    private static void spans() {
        CradleNames x = new CradleNames();
        x.name(Due.letters("ab"), 3);
        due.is("no tastes", x.span(0, 0, 0, 0, false), -1);
        x.taste();
        due.is("no cradles", x.span(0, 0, 0, 0, true), 0);
        for (int row = 0; row < 12; row++) {
            x.cradles(row / 4, row / 2 % 2, row % 2, 6);
        }
        due.is("twelve at most", x.span(0, 2, 1, 0, true), 12);
        due.is("one taste: the least is the greatest", x.span(0, 2, 1, 0, false), 12);
        Due.taste(x, "bar near>=5;");
        due.is("two tastes: the least", x.span(0, 2, 1, 0, false), 0);
        due.is("two tastes: the least of girls", x.span(0, 2, 0, 0, false), 5);
        due.is("two tastes: the greatest", x.span(0, 2, 0, 0, true), 12);
        x.print(0, 2, 0, 0, 5);
        due.is("the second alone", x.span(0, 2, 0, 0, true), 5);
        due.is("the second alone, the least", x.span(0, 2, 0, 0, false), 5);
        x.print(0, 2, 0, 0, 12);
        due.is("none is let", x.span(0, 2, 0, 0, true), -1);
        due.is("none is let, the least", x.span(0, 2, 0, 0, false), -1);
        CradleNames six = Due.pickers("ab", "abc", "abcd", "abcde", "abcdef", "abcdefg");
        six.cradles(0, 0, 0, 4);
        due.is("the first of six", six.span(60, 0, 0, 0, true), 4);
        due.is("the last of six", six.span(60, 0, 0, 5, true), 4);
        six.print(60, 0, 0, 5, 4);
        due.is("the last alone is let", six.let(-1, 0), 1);
        due.is("the last of six alone", six.span(60, 0, 0, 5, false), 4);
    }

    private static void parts(String what, CradleNames x, int year, int... want) {
        for (int i = 0; i < 4; i++) {
            due.is(what + ": parts " + i, x.parts(year, i), want.length == 0 ? -1 : want[i]);
        }
    }

    /** "PARTS MOST ..: the PLACE, SEX, NAME by which these are furthest apart; of like ones the first by PLACE, SEX, NAME" */
    private static void partsMost() {
        CradleNames x = new CradleNames();
        parts("no tastes", x, 0);
        x.name(Due.letters("ab"), 3);
        x.name(Due.letters("abc"), 3);
        Due.taste(x, "bar long=3;");
        x.cradles(2, 1, 1, 1);
        parts("one taste", x, 0);
        Due.taste(x, "bar long=3;");
        parts("two that bring the same", x, 0);
        Due.taste(x, "bar long=2;");
        parts("the last place and sex", x, 0, 2, 1, 0, 1);
        parts("in 60 as well", x, 60, 2, 1, 0, 1);
        x.cradles(2, 0, 0, 1);
        parts("of like sexes the first", x, 0, 2, 0, 0, 1);
        x.cradles(1, 0, 1, 1);
        parts("of like places the first", x, 0, 1, 1, 0, 1);
        x.cradles(2, 0, 1, 1);
        parts("two are more than one", x, 0, 2, 1, 0, 2);
        x.print(0, 2, 1, 0, 0);
        parts("one taste is let", x, 0);
        x.print(0, 2, 1, 0, 1);
        parts("none is let", x, 0);
        CradleNames y = new CradleNames();
        y.name(Due.letters("ab"), 3);
        y.name(Due.letters("abc"), 3);
        Due.taste(y, "bar 1=1;");
        Due.taste(y, "worth long;");
        y.cradles(0, 0, 0, 6);
        y.cradles(0, 1, 0, 6);
        parts("the second name, twelve", y, 30, 0, 0, 1, 12);
        y.cradles(0, 0, 0, 0);
        y.cradles(0, 1, 0, 0);
        parts("no cradles", y, 30);
    }

    /** A row told behind the clock that is asked for counts as known now: parts and span know all rows. */
    private static void knownNow() {
        CradleNames x = three();
        x.years(20);
        x.print(0, 1, 0, 1, 2);
        due.is("span as known now", x.span(5, 1, 0, 1, false), 2);
        due.is("let as known ahead", x.let(-1, 19), 3);
        x.years(20);
        x.years(20);
        x.years(1);
        x.print(60, 1, 0, 1, 0);
        due.is("told at 61, as known at 60", x.let(1, 60), 1);
        due.is("told at 61, as known at 61", x.let(1, 61), 0);
        due.is("span at 61", x.span(5, 1, 0, 1, false), -1);
        due.is("parts at 61", x.parts(5, 0), -1);
    }

    /** "A new object: No NAMES, CRADLES, TASTES; THE IMAGE is this" */
    private static void newObject() {
        CradleNames x = new CradleNames();
        String first = Sight.of(x);
        due.is("back at once", x.back(), 0);
        due.is("nothing changed", Sight.of(x).equals(first), true);
        CradleNames y = three();
        y.born(0, 0, 0, 0, 40, 9);
        y.life(90);
        y.list(0, 1);
        y.film(0, 0, 1);
        y.print(0, 0, 0, 0, 0);
        y.by(0, 0);
        y.years(7);
        due.is("back from 7", y.back(), 0);
        // The latest fault stays, as it is no part of the image; here there was none of a text that was read.
        due.is("its fault stays", y.fault(0), 0);
        Due.taste(x, "");
        x.back();
        due.is("as a new object", Sight.of(y).equals(Sight.of(x)), true);
    }

    /** "THE IMAGE is as all is now: the clock", "All is as at THE IMAGE again (it stays): the clock" */
    private static void images() {
        CradleNames x = three();
        x.by(0, 0);
        x.by(1, 2);
        x.years(2);
        due.is("image at 2", x.image(), 2);
        String then = Sight.of(x);
        x.years(1);
        due.is("back to 2", x.back(), 2);
        due.is("all is as it was", Sight.of(x).equals(then), true);
        due.is("back at once", x.back(), 2);
        due.is("all is as it was still", Sight.of(x).equals(then), true);
        x.years(3);
        due.is("a later image takes its place", x.image(), 5);
        String later = Sight.of(x);
        x.years(20);
        due.is("back to 5", x.back(), 5);
        due.is("as at 5", Sight.of(x).equals(later), true);
        due.is("never to 2 again", x.back(), 5);
        x.years(20);
        x.years(20);
        x.years(16);
        String end = Sight.of(x);
        due.is("image at 61", x.image(), 61);
        due.is("back at 61", x.back(), 61);
        due.is("as at 61", Sight.of(x).equals(end), true);
        due.is("no year more", x.years(1), -1);
    }

    /** What was told ahead of year 0 comes back as it was, and so does LIFE. */
    private static void imageAtZero() {
        CradleNames x = three();
        x.born(0, 0, 0, 0, 40, 9);
        x.life(20);
        x.image();
        String then = Sight.of(x);
        x.born(0, 0, 0, 0, 40, 9);
        x.born(2, 2, 1, 1, 1, 99);
        x.life(90);
        due.is("back", x.back(), 0);
        due.is("as it was", Sight.of(x).equals(then), true);
        due.is("born goes on from there", x.born(0, 0, 0, 0, 40, 1), 10);
        x.life(90);
        x.years(20);
        due.is("back from 20", x.back(), 0);
        due.is("as it was again", Sight.of(x).equals(then), true);
        due.is("life at clock 0 again", x.life(33), true);
        due.is("born at clock 0 again", x.born(1, 0, 0, 0, 1, 1), 1);
    }

    /** "AN IMAGE: all as it is, but the tape and the latest FAULT; TASTES told behind it are gone behind going back" */
    private static void tapeAndTastes() {
        CradleNames x = three();
        x.by(0, 0);
        x.image();
        due.is("a fourth taste", Due.taste(x, "worth 4;"), 3);
        due.is("it holds", x.by(0, 3), true);
        due.is("a fault", Due.taste(x, "worth 1;;"), -1);
        Due.write(x, "worth");
        x.back();
        due.is("the tape stays", x.about(6), 5);
        due.is("the fault stays", x.fault(0), 1);
        due.is("its place stays", x.fault(1), 8);
        due.is("three tastes", x.about(4), 3);
        due.is("the one that held then", x.about(10), 0);
        due.is("the fourth is gone", x.by(0, 3), false);
        due.is("nor is it let", x.let(3, 0), -1);
        due.is("the tape can be read", x.taste(), -1);
        due.is("its end", x.fault(1), 5);
        x.back();
        due.is("nor does the tape come back", x.about(6), 0);
        due.is("the later fault stays", x.fault(1), 5);
        due.is("another fourth", Due.taste(x, "bar 1=1;"), 3);
        x.by(0, 3);
        due.is("it is the other one", x.now(0, 0, 0, 0), -1);
        due.is("its worth is not the gone one's", x.now(0, 0, 0, 100), 0);
    }

    /** "10 + standing: the TASTE that holds (NONE), 20 + (place * 2 + standing) * 2 + sex: CRADLES" */
    private static void about() {
        CradleNames x = three();
        due.is("none holds above", x.about(10), -1);
        due.is("none holds below", x.about(11), -1);
        x.by(1, 2);
        due.is("none holds above still", x.about(10), -1);
        due.is("2 holds below", x.about(11), 2);
        for (int place = 0; place < 3; place++) {
            for (int standing = 0; standing < 2; standing++) {
                for (int sex = 0; sex < 2; sex++) {
                    CradleNames y = new CradleNames();
                    y.cradles(place, standing, sex, 5);
                    for (int what = 20; what < 32; what++) {
                        boolean its = what == 20 + (place * 2 + standing) * 2 + sex;
                        due.is("cradles " + what, y.about(what), its ? 5 : 0);
                    }
                }
            }
        }
        for (int what : new int[] {8, 9, 12, 13, 19, 32, 33, 100}) {
            due.is("about " + what, x.about(what), -1);
        }
    }

    public static void main(String[] args) {
        rows();
        known();
        spans();
        partsMost();
        knownNow();
        newObject();
        images();
        imageAtZero();
        tapeAndTastes();
        about();
        due.end();
    }
}
