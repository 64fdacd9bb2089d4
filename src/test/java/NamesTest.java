/** Promises 1 to 4: a new object, name, of, alike. */
public final class NamesTest {
    private static final Due due = new Due();

    private static void newObject() {
        CradleNames x = new CradleNames();
        for (int what = 0; what <= 6; what++) {
            due.is("new: about(" + what + ")", x.about(what), 0);
        }
        due.is("new: life", x.about(7), 60);
        due.is("new: upper taste", x.about(10), -1);
        due.is("new: lower taste", x.about(11), -1);
        for (int what = 20; what <= 31; what++) {
            due.is("new: cradles " + what, x.about(what), 0);
        }
        due.is("new: name 0", x.of(0, 0), -1);
        x.name(Due.letters("ab"), 1);
        x.born(0, 0, 0, 0, 1, 5);
        x.life(30);
        x.cradles(1, 1, 1, 4);
        Due.taste(x, "");
        x.by(1, 0);
        x.years(3);
        due.is("the image of a new object: clock", x.back(), 0);
        due.is("the image of a new object: names", x.about(1), 0);
        due.is("the image of a new object: tastes", x.about(4), 0);
        due.is("the image of a new object: life", x.about(7), 60);
        due.is("the image of a new object: held", x.about(11), -1);
        due.is("the image of a new object: cradles", x.about(27), 0);
        x.name(Due.letters("ab"), 1);
        due.is("the image of a new object: none told", x.given(-1, -1, -1, -1, -1), 0);
        due.is("the image of a new object: none living", x.of(0, 4), 0);
    }

    private static void wrongNames() {
        CradleNames x = new CradleNames();
        due.is("no letters", x.name(0, 1), -1);
        due.is("one letter", x.name(1, 1), -1);
        due.is("eleven letters", x.name(Due.letters("abcdefghijk"), 1), -1);
        due.is("a gap", x.name(1 + (2 << 10), 1), -1);
        due.is("a gap at first", x.name(2 << 5, 1), -1);
        due.is("letter 27", x.name(1 + (27 << 5), 1), -1);
        due.is("letter 31 first", x.name(31 + (1 << 5), 1), -1);
        due.is("below 0", x.name(-1L, 1), -1);
        due.is("far too high", x.name(Due.letters("ab") | 1L << 60, 1), -1);
        due.is("the highest bit", x.name(Due.letters("ab") | Long.MIN_VALUE, 1), -1);
        due.is("sexes 0", x.name(Due.letters("ab"), 0), -1);
        due.is("sexes 4", x.name(Due.letters("ab"), 4), -1);
        due.is("sexes below 0", x.name(Due.letters("ab"), -1), -1);
        due.is("none was taken", x.about(1), 0);
    }

    private static void manyNames() {
        CradleNames x = new CradleNames();
        due.is("two letters", x.name(Due.letters("az"), 1), 0);
        due.is("ten letters", x.name(Due.letters("zbcdefghij"), 2), 1);
        due.is("the same letters", x.name(Due.letters("az"), 1), -1);
        due.is("the same letters for others", x.name(Due.letters("az"), 2), -1);
        due.is("the letters the other way", x.name(Due.letters("za"), 3), 2);
        for (int i = 3; i < 16; i++) {
            due.is("name " + i, x.name(Due.letters("b" + (char) ('a' + i)), 3), i);
        }
        due.is("a 17th", x.name(Due.letters("qq"), 1), -1);
        due.is("16 of them", x.about(1), 16);
    }

    private static void letters() {
        CradleNames x = new CradleNames();
        String[] words = {"emma", "anna", "levon", "simon", "grb", "rb", "mary", "lucy", "bpvf", "philipp",
            "wou", "eyi", "szx", "ckgq", "ahjlr", "dtmn"};
        int[] lowest = {0, 0, 2, 2, 4, 5, 6, 6, 8, 9, 10, 11, 12, 13, 14, 15};
        int[] sounds = {3, 3, 5, 5, 3, 2, 4, 4, 1, 6, 1, 1, 1, 1, 5, 2};
        for (int i = 0; i < words.length; i++) {
            x.name(Due.letters(words[i]), i % 3 + 1);
        }
        for (int i = 0; i < words.length; i++) {
            due.is("letters of " + words[i], x.of(i, 0), words[i].length());
            due.is("sexes of " + words[i], x.of(i, 1), i % 3 + 1);
            due.is("lowest of the ending of " + words[i], x.of(i, 2), lowest[i]);
            due.is("sounds of " + words[i], x.of(i, 3), sounds[i]);
        }
        due.is("of(0, 5)", x.of(0, 5), -1);
        due.is("of(0, -1)", x.of(0, -1), -1);
        due.is("of(16, 0)", x.of(16, 0), -1);
        due.is("of(-1, 0)", x.of(-1, 0), -1);
    }

    private static void living() {
        CradleNames x = new CradleNames();
        x.name(Due.letters("ab"), 1);
        x.life(20);
        x.born(0, 0, 0, 0, 21, 50);
        x.born(0, 1, 1, 1, 20, 7);
        x.born(0, 2, 0, 0, 1, 2);
        due.is("living at -1, life 20", x.of(0, 4), 9);
        x.cradles(0, 0, 0, 1);
        Due.taste(x, "");
        x.by(0, 0);
        x.years(1);
        due.is("living at 0, life 20", x.of(0, 4), 3);
        x.years(19);
        due.is("living at 19, life 20", x.of(0, 4), 20);
        x.years(1);
        due.is("living at 20, life 20", x.of(0, 4), 20);
    }

    private static void alike(String one, String other, int want) {
        CradleNames x = new CradleNames();
        x.name(Due.letters(one), 1);
        x.name(Due.letters(other), 1);
        due.is(one + " and " + other, x.alike(0, 1), want);
        due.is(other + " and " + one, x.alike(1, 0), want);
        due.is(one + " and itself", x.alike(0, 0), 1);
        due.is("alike(0, 2)", x.alike(0, 2), -1);
        due.is("alike(-1, 0)", x.alike(-1, 0), -1);
        due.is("alike(2, 2)", x.alike(2, 2), -1);
    }

    public static void main(String[] args) {
        newObject();
        wrongNames();
        manyNames();
        letters();
        living();
        alike("ana", "anna", 1);
        alike("dim", "tim", 1);
        alike("tim", "tom", 1);
        alike("ada", "adam", 1);
        alike("ada", "hada", 1);
        alike("ala", "ahla", 1);
        alike("ab", "ba", 0);
        alike("abc", "cab", 0);
        alike("ala", "ahlah", 0);
        alike("ala", "hahla", 0);
        alike("aha", "ajala", 0);
        alike("aha", "ahaha", 0);
        alike("jala", "hara", 0);
        alike("aj", "ah", 1);
        due.end();
    }
}
