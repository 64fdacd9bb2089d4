/** The edges of what tastes say and do: reckoning, words, bars, years that go by, runs. */
public final class EdgeWordsTest {
    private static final Due due = new Due();

    private static CradleNames one() {
        CradleNames x = new CradleNames();
        x.name(Due.letters("anna"), 3);
        return x;
    }

    /** The worth of name 0 for a girl of a place and standing, by a text that is told for now alone. */
    private static int worth(CradleNames x, int place, int standing, String text) {
        x.image();
        due.is("taste [" + text + "]", Due.taste(x, text) >= 0, true);
        x.by(standing, x.about(4) - 1);
        int worth = x.now(place, standing, 0, 100);
        x.back();
        return worth;
    }

    private static void reckon(String sum, int want) {
        due.is(sum, worth(one(), 0, 0, "worth " + sum + ";"), want);
    }

    /** "From the left; / cuts towards 0, by 0 it is 0" */
    private static void division() {
        reckon("1/2", 0);
        reckon("-1/2", 0);
        reckon("3/2", 1);
        reckon("-3/2", -1);
        reckon("3/-2", -1);
        reckon("-3/-2", 1);
        reckon("-(3/2)", -1);
        reckon("4/2", 2);
        reckon("-4/2", -2);
        reckon("0/5", 0);
        reckon("5/0", 0);
        reckon("-5/0", 0);
        reckon("0/0", 0);
        reckon("5/(1-1)", 0);
        reckon("9/0+4", 4);
        reckon("9/0/0*7+1", 1);
        reckon("9999*9999*9999/0", 0);
        reckon("9-5-3", 1);
        reckon("9-(5-3)", 7);
        reckon("8/4/2", 1);
        reckon("8/(4/2)", 4);
        reckon("7/2*2", 6);
        reckon("2*7/2", 7);
        reckon("1-2*3", -5);
        reckon("1-2-3*4", -13);
        reckon("--1", 1);
        reckon("2--1", 3);
        reckon("2---1", 1);
        reckon("-2*-3", 6);
        reckon("min(1,2)-max(1,2)", -1);
        reckon("min(2,2)+max(2,2)", 4);
        reckon("min(-1,0)", -1);
        reckon("max(-1,0)", 0);
        reckon("min(1+1,2*0)", 0);
        reckon("min(max(1,3),max(2,0))", 2);
    }

    /** "what is above 1000000000 (below the same less) is that, at each step" */
    private static void bounds() {
        String most = "9999*9999*9999";
        String billion = "1000*1000*1000";
        reckon(billion, 1000000000);
        reckon(billion + "-1", 999999999);
        reckon(billion + "+1", 1000000000);
        reckon(billion + "+1-1", 999999999);
        reckon(billion + "+0", 1000000000);
        reckon("-" + billion, -1000000000);
        reckon("0-" + billion + "-1", -1000000000);
        reckon("0-" + billion + "-1+1", -999999999);
        reckon("0-" + billion + "+1", -999999999);
        reckon("-1-" + billion, -1000000000);
        reckon("1+" + billion + "-2", 999999998);
        reckon(most, 1000000000);
        reckon("-" + most, -1000000000);
        reckon(most + "/1000", 1000000);
        reckon(most + "*" + most, 1000000000);
        reckon("-" + most + "*(" + most + ")", -1000000000);
        reckon("(0-" + most + ")*(0-" + most + ")", 1000000000);
        reckon("(0-" + most + ")/-1", 1000000000);
        reckon("-(0-" + most + ")", 1000000000);
        reckon(most + "+(" + most + ")", 1000000000);
        reckon(most + "+(" + most + ")-(" + most + ")", 0);
        reckon("0-(" + most + ")-(" + most + ")", -1000000000);
        reckon("0-(" + most + ")-(" + most + ")+(" + most + ")", 0);
        reckon("min(" + most + ",0-" + most + ")", -1000000000);
        reckon("max(" + most + ",0-" + most + ")", 1000000000);
        // 31622 and 31623, on either side of the root
        reckon("(9999*3+1625)*(9999*3+1625)", 31622 * 31622);
        reckon("(9999*3+1626)*(9999*3+1626)", 1000000000);
        // 2 to the 32nd and to the 31st would wrap around
        reckon("(8192*8)*(8192*8)", 1000000000);
        reckon("(8192*8)*(8192*4)", 1000000000);
        String nearly = "9999*9999*10+9999*20";
        reckon(nearly + "+9", 999999999);
        reckon(nearly + "+10", 1000000000);
        reckon(nearly + "+11", 1000000000);
        reckon(nearly + "+11-1", 999999999);
    }

    private static CradleNames born(int ago, int n) {
        CradleNames x = one();
        x.born(0, 1, 1, 0, ago, n);
        return x;
    }

    /** "near: GIVEN in the PLACE in the last YEARS (near of them, y among them)" and far, up, same likewise */
    private static void windows() {
        for (int near : new int[] {1, 2, 19, 20}) {
            String text = "near " + near + ";worth ";
            // The years are -near + 1 .. 0, and of those told ahead of 0 the first is -near + 1.
            int within = near - 1;
            if (within >= 1) {
                CradleNames x = born(within, 3);
                due.is("near in the first of " + near, worth(x, 1, 0, text + "near;"), 3);
                due.is("near of another place", worth(x, 0, 0, text + "near;"), 0);
                due.is("far in the first of " + near, worth(x, 0, 0, text + "far;"), 3);
                due.is("far in its own place", worth(x, 1, 0, text + "far;"), 0);
                due.is("same in the first of " + near, worth(x, 2, 1, text + "same;"), 3);
                due.is("same of another standing", worth(x, 2, 0, text + "same;"), 0);
                due.is("up of what is below", worth(x, 2, 1, text + "up;"), 0);
            }
            CradleNames y = born(near, 3);
            due.is("near in the year ahead of " + near, worth(y, 1, 0, text + "near;"), 0);
            due.is("far in the year ahead of " + near, worth(y, 0, 0, text + "far;"), 0);
            due.is("same in the year ahead of " + near, worth(y, 2, 1, text + "same;"), 0);
        }
        CradleNames x = one();
        x.born(0, 2, 0, 1, 1, 4);
        due.is("up from below", worth(x, 0, 1, "worth up;"), 4);
        due.is("up from above is 0", worth(x, 0, 0, "worth up;"), 0);
        due.is("same from above", worth(x, 0, 0, "worth same;"), 4);
        due.is("up a year ahead of near", worth(x, 0, 1, "near 1;worth up;"), 0);
    }

    /** "y among them", "all that was GIVEN so far among it": a cradle hears those of its own year ahead of it */
    private static void withinTheYear() {
        CradleNames x = new CradleNames();
        x.name(Due.letters("ab"), 3);
        x.name(Due.letters("cd"), 3);
        String[] texts = {"near 1;bar near>=2;", "near 1;bar same>=2;", "bar all>=2;", "bar gone=0;", "bar girls>=1;",
            "near 1;bar far>=1;"};
        int[][] want = {{2, 2, 1}, {2, 2, 1}, {2, 2, 1}, {1, 1, 3}, {1, 1, 3}, {5, 0, 0}};
        for (String text : texts) {
            Due.taste(x, text);
        }
        x.cradles(1, 0, 0, 5);
        x.image();
        for (int i = 0; i < texts.length; i++) {
            x.back();
            x.by(0, i);
            x.years(1);
            due.is("first by [" + texts[i] + "]", x.given(0, 1, 0, 0, 0), want[i][0]);
            due.is("second by [" + texts[i] + "]", x.given(0, 1, 0, 0, 1), want[i][1]);
            due.is("unnamed by [" + texts[i] + "]", x.unnamed(0), want[i][2]);
        }
    }

    /** "girls, boys, all: LIVING at y; old: of these those born past YEARS ago or more" */
    private static void living() {
        CradleNames x = one();
        x.life(30);
        x.born(0, 0, 0, 0, 29, 2);
        x.born(0, 1, 1, 1, 29, 3);
        x.born(0, 0, 0, 0, 30, 50);
        x.born(0, 2, 1, 1, 30, 70);
        x.born(0, 2, 0, 1, 1, 4);
        due.is("girls of the last 30", worth(x, 0, 0, "worth girls;"), 2);
        due.is("boys of the last 30", worth(x, 0, 0, "worth boys;"), 7);
        due.is("all of the last 30", worth(x, 0, 0, "worth all;"), 9);
        due.is("old of 29", worth(x, 0, 0, "past 29;worth old;"), 5);
        due.is("old of 28", worth(x, 0, 0, "past 28;worth old;"), 5);
        due.is("old of 30: none lives", worth(x, 0, 0, "past 30;worth old;"), 0);
        due.is("old of 60", worth(x, 0, 0, "past 60;worth old;"), 0);
        due.is("old of 1", worth(x, 0, 0, "past 1;worth old;"), 9);
        due.is("old of 2", worth(x, 0, 0, "past 2;worth old;"), 5);
        CradleNames y = one();
        y.life(90);
        y.taste();
        y.by(0, 0);
        y.cradles(0, 0, 0, 1);
        y.years(1);
        y.cradles(0, 0, 0, 0);
        y.years(20);
        y.years(20);
        y.years(18);
        due.is("born 59 years ago, past 60", worth(y, 0, 0, "past 60;worth old;"), 0);
        y.years(1);
        due.is("born 60 years ago, past 60", worth(y, 0, 0, "past 60;worth old;"), 1);
    }

    /** "gone: YEARS since it was GIVEN last (0 in y; 99 at most, and if it never was)" */
    private static void gone() {
        due.is("never", worth(one(), 0, 0, "worth gone;"), 99);
        due.is("a year ago", worth(born(1, 1), 0, 0, "worth gone;"), 1);
        due.is("forty years ago", worth(born(40, 1), 0, 0, "worth gone;"), 40);
        CradleNames x = born(40, 1);
        x.born(0, 0, 0, 0, 39, 1);
        due.is("the last of two", worth(x, 0, 0, "worth gone;"), 39);
        x.born(0, 0, 0, 0, 40, 1);
        due.is("told later, but longer ago", worth(x, 0, 0, "worth gone;"), 39);
        CradleNames y = born(40, 1);
        y.years(20);
        y.years(20);
        y.years(18);
        due.is("98", worth(y, 0, 0, "worth gone;"), 98);
        y.years(1);
        due.is("99", worth(y, 0, 0, "worth gone;"), 99);
        y.years(1);
        due.is("a hundred years are 99", worth(y, 0, 0, "worth gone;"), 99);
        CradleNames z = one();
        z.life(20);
        z.born(0, 0, 0, 0, 30, 1);
        due.is("none lives, but it was given", worth(z, 0, 0, "worth gone;"), 30);
        CradleNames now = new CradleNames();
        now.name(Due.letters("ab"), 3);
        now.name(Due.letters("cd"), 3);
        Due.taste(now, "worth gone;");
        now.by(0, 0);
        now.cradles(0, 0, 0, 2);
        now.years(1);
        due.is("0 in the year itself", now.given(0, 0, 0, 0, 1), 1);
        due.is("a year behind", now.now(0, 0, 0, 100), 1);
    }

    /** "rise: GIVEN in y - 1 less GIVEN in y - 2; sound: GIVEN in y - 1 of other NAMES of its ENDING" */
    private static void riseAndSound() {
        CradleNames x = new CradleNames();
        x.name(Due.letters("anna"), 3);
        x.name(Due.letters("lena"), 3);
        x.name(Due.letters("otto"), 3);
        x.born(0, 0, 0, 0, 1, 2);
        x.born(0, 1, 1, 1, 2, 7);
        x.born(0, 0, 0, 0, 3, 50);
        x.born(1, 2, 1, 1, 1, 11);
        x.born(1, 2, 1, 1, 2, 13);
        x.born(2, 0, 0, 0, 1, 17);
        due.is("rise in 0", worth(x, 0, 0, "worth rise;"), -5);
        due.is("sound in 0, of others, of the year ahead alone", worth(x, 0, 0, "worth sound;"), 11);
        Due.taste(x, "bar long=4 and sound=0;");
        x.by(0, 0);
        x.list(0, 2);
        x.cradles(0, 0, 0, 3);
        x.years(1);
        due.is("rise in 1, from -1", worth(x, 0, 0, "worth rise;"), -2);
        due.is("sound in 1", worth(x, 0, 0, "worth sound;"), 3);
        x.years(1);
        due.is("rise in 2", worth(x, 0, 0, "worth rise;"), 0);
        CradleNames alone = one();
        alone.born(0, 0, 0, 0, 1, 9);
        due.is("without others no sound", worth(alone, 0, 0, "worth sound;"), 0);
        due.is("rise from nothing", worth(alone, 0, 0, "worth rise;"), 9);
        CradleNames bare = new CradleNames();
        bare.name(Due.letters("bcd"), 3);
        bare.name(Due.letters("mbcd"), 3);
        bare.born(1, 0, 0, 0, 1, 9);
        due.is("without vowels nothing sounds like it", worth(bare, 0, 0, "worth sound;"), 0);
    }

    /** "sound: GIVEN in y - 1": those of the year itself are not heard, in no place */
    private static void soundOfTheYear() {
        CradleNames x = new CradleNames();
        x.name(Due.letters("ida"), 3);
        x.name(Due.letters("eva"), 3);
        Due.taste(x, "worth sound;");
        x.by(0, 0);
        x.cradles(0, 0, 0, 1);
        x.cradles(2, 0, 0, 1);
        x.years(1);
        due.is("in the first place", x.given(0, 0, 0, 0, 0), 1);
        due.is("in the last place", x.given(0, 2, 0, 0, 0), 1);
        x.years(1);
        due.is("in the year behind", x.given(1, -1, -1, -1, 1), 2);
    }

    /** "without sound (that is 0)" */
    private static void runsWithoutSound() {
        CradleNames x = new CradleNames();
        x.name(Due.letters("ida"), 3);
        x.name(Due.letters("evora"), 3);
        Due.taste(x, "worth sound*long;");
        x.by(0, 0);
        x.cradles(0, 0, 0, 1);
        x.years(1);
        due.is("no sound in 0", x.sound(0, 0), 0);
        x.years(1);
        due.is("given by sound in 1", x.given(1, -1, -1, -1, 1), 1);
        due.is("without it the lowest", x.sound(0, 1), -1);
        due.is("what it brought", x.sound(1, 1), 1);
    }

    /** "long: its letters; year: y" */
    private static void longAndYear() {
        CradleNames x = new CradleNames();
        x.name(Due.letters("ab"), 3);
        x.name(Due.letters("abcdefghij"), 3);
        Due.taste(x, "worth long*100+year;");
        x.by(0, 0);
        due.is("two letters in 0", x.now(0, 0, 0, 100), 200);
        due.is("ten letters in 0", x.now(0, 0, 0, 101), 1000);
        x.years(20);
        x.years(20);
        x.years(20);
        due.is("in 60", x.now(0, 0, 0, 101), 1060);
        x.years(1);
        due.is("in 61", x.now(0, 0, 0, 101), -2000000000);
    }

    /** "WORTH of a NAME: worth (without 0)", "It MAY, if it is for the SEX, on the LIST, and no bar is so" */
    private static void may() {
        CradleNames x = new CradleNames();
        x.name(Due.letters("ab"), 1);
        x.name(Due.letters("abc"), 2);
        x.name(Due.letters("abcd"), 3);
        Due.taste(x, "");
        Due.taste(x, "bar 1=2;bar long=3;bar 2=3;");
        Due.taste(x, "bar 1=1;");
        x.by(0, 0);
        for (int name = 0; name < 3; name++) {
            due.is("without worth 0", x.now(0, 0, 0, 100 + name), 0);
            due.is("for girls " + name, x.now(0, 0, 0, 200 + name), name == 1 ? 0 : 1);
            due.is("for boys " + name, x.now(0, 0, 1, 200 + name), name == 0 ? 0 : 1);
        }
        x.by(0, 1);
        due.is("one of three bars is so", x.now(0, 0, 1, 201), 0);
        due.is("none of three is", x.now(0, 0, 1, 202), 1);
        due.is("its worth, though it may not", x.now(0, 0, 1, 101), 0);
        x.by(0, 2);
        due.is("none may: no name", x.now(0, 0, 1, 0), -1);
        due.is("none may: no worth", x.now(0, 0, 1, 1), -2000000000);
        CradleNames none = new CradleNames();
        none.taste();
        none.by(0, 0);
        due.is("without names", none.now(0, 0, 0, 0), -1);
        due.is("without names, 1", none.now(0, 0, 0, 1), -2000000000);
        due.is("without names, 100", none.now(0, 0, 0, 100), -2000000000);
    }

    /** "of the NAMES that MAY that of the greatest WORTH, of like ones the lowest; without any it is UNNAMED" */
    private static void greatest() {
        CradleNames x = new CradleNames();
        x.name(Due.letters("abcd"), 3);
        x.name(Due.letters("abc"), 3);
        x.name(Due.letters("abd"), 3);
        Due.taste(x, "worth 0-long;");
        Due.taste(x, "worth 0-9999*9999*9999;");
        Due.taste(x, "bar 1=1;");
        x.by(0, 0);
        due.is("below 0, of like ones the lowest", x.now(0, 0, 0, 0), 1);
        due.is("its worth", x.now(0, 0, 0, 1), -3);
        x.by(0, 1);
        due.is("the least worth there is", x.now(0, 0, 0, 1), -1000000000);
        due.is("it is given even so", x.now(0, 0, 0, 0), 0);
        x.cradles(0, 0, 0, 2);
        x.cradles(0, 1, 1, 3);
        x.years(1);
        due.is("named in 0", x.given(0, 0, 0, 0, 0), 2);
        due.is("without a taste unnamed", x.unnamed(0), 3);
        x.by(0, 2);
        x.by(1, 2);
        x.years(1);
        due.is("without any that may unnamed", x.unnamed(1), 5);
        x.by(0, -1);
        x.by(1, 0);
        x.years(1);
        due.is("none holds above", x.unnamed(2), 2);
        due.is("in all", x.unnamed(-1), 10);
    }

    /** "A RUN: .. with CRADLES and TASTES as they were in each YEAR that went by; .. YEARS that didn't go by yet: CRADLES as they are told now" */
    private static void runs() {
        CradleNames x = new CradleNames();
        x.name(Due.letters("ab"), 3);
        x.name(Due.letters("cd"), 3);
        Due.taste(x, "bar 1=1;");
        Due.taste(x, "worth film;");
        x.film(1, 1, 999);
        x.cradles(0, 0, 0, 1);
        x.years(1);
        x.cradles(0, 0, 0, 2);
        x.by(0, 1);
        x.years(1);
        x.cradles(0, 0, 0, 3);
        due.is("a year gone by, in both standings, though none held", x.span(0, 0, 0, 0, true), 1);
        due.is("the last one gone by", x.span(1, 0, 0, 1, true), 2);
        due.is("the first that didn't", x.span(2, 0, 0, 1, true), 3);
        due.is("the last one", x.span(60, 0, 0, 0, true), 3);
        x.cradles(0, 1, 0, 6);
        due.is("the other standing's cradles as told now", x.span(60, 0, 0, 0, true), 9);
        due.is("not in years gone by", x.span(1, 0, 0, 1, true), 2);
        due.is("without the film in 1", x.took(0, 1, 1), 2);
        due.is("without it in 1, the other", x.took(0, 0, 1), -2);
        due.is("none held in 0", x.took(0, 0, 0), 0);
        due.is("2 has not gone by", x.took(0, 0, 2), -1000);
        CradleNames y = new CradleNames();
        due.is("no film, no name", y.took(0, 0, 0), -1000);
        due.is("no name", y.sound(0, 0), -1000);
        y.name(Due.letters("ab"), 3);
        y.film(0, 0, 1);
        due.is("no year went by: took", y.took(0, 0, 0), -1000);
        due.is("no year went by: sound", y.sound(0, 0), -1000);
        due.is("nor -1: took", y.took(0, 0, -1), -1000);
        due.is("nor -1: sound", y.sound(0, -1), -1000);
        y.years(1);
        due.is("without any given", y.took(0, 0, 0), 0);
        due.is("without any given, sound", y.sound(0, 0), 0);
    }

    /** At 60 and 61: the last year goes by like another, and runs reach it. */
    private static void lastYear() {
        CradleNames x = new CradleNames();
        x.name(Due.letters("ida"), 3);
        x.name(Due.letters("bob"), 3);
        x.name(Due.letters("eva"), 3);
        Due.taste(x, "worth film-near;");
        Due.taste(x, "worth sound-near*0;bar gone=1;");
        x.film(1, 60, 999);
        x.by(0, 0);
        x.cradles(0, 0, 0, 2);
        x.years(20);
        x.years(20);
        x.years(20);
        x.years(1);
        due.is("given in 60", x.given(60, -1, -1, -1, 1), 2);
        due.is("what a film brought in 60", x.took(0, 1, 60) > 0, true);
        due.is("the run by the same taste", x.span(60, 0, 0, 1, true), 2);
        due.is("not in 61", x.took(0, 1, 61), -1000);
        due.is("nor sound", x.sound(1, 61), -1000);
        due.is("sound in 60", x.sound(1, 60), 0);
        due.is("living in 60", x.of(0, 4) > 0, true);
        due.is("let as known at 61", x.let(0, 61), 1);
        due.is("printed at 61", x.print(60, 0, 0, 1, 1), 1);
        due.is("as known at 60", x.let(0, 60), 1);
        due.is("as known at 61", x.let(0, 61), 0);
    }

    public static void main(String[] args) {
        division();
        bounds();
        windows();
        withinTheYear();
        living();
        gone();
        riseAndSound();
        soundOfTheYear();
        runsWithoutSound();
        longAndYear();
        may();
        greatest();
        runs();
        lastYear();
        due.end();
    }
}
