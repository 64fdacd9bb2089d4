/** Holds answers against those that are due, and says texts and names as CradleNames takes them. */
final class Due {
    private int wrong = 0;

    void is(String what, long got, long want) {
        if (got != want) {
            wrong++;
            System.out.println(what + " answered " + got + ", due is " + want);
        }
    }

    void is(String what, boolean got, boolean want) {
        is(what, got ? 1 : 0, want ? 1 : 0);
    }

    void end() {
        System.out.println(wrong == 0 ? "all answers are as due" : wrong + " answers are not as due");
        if (wrong != 0) {
            System.exit(1);
        }
    }

    /** A word as a number of five bits a letter, the first one lowest. */
    static long letters(String word) {
        long number = 0;
        for (int i = word.length() - 1; i >= 0; i--) {
            number = number << 5 | word.charAt(i) - 'a' + 1;
        }
        return number;
    }

    /** Puts a text on the tape, in place of what is there. */
    static void write(CradleNames x, String text) {
        x.end(0);
        for (int at = 0; at < text.length(); at += 20) {
            int[] v = new int[5];
            for (int i = 0; i < 20; i++) {
                int sign = at + i < text.length() ? text.charAt(at + i) : ' ';
                v[i / 4] = v[i / 4] << 8 | sign;
            }
            x.feed(v[0], v[1], v[2], v[3], v[4]);
        }
        x.end(text.length());
    }

    static int taste(CradleNames x, String text) {
        write(x, text);
        return x.taste();
    }

    /** Six names for both, of two letters to seven, and a taste for each that brings it alone. */
    static CradleNames pickers(String... words) {
        CradleNames x = new CradleNames();
        for (int i = 0; i < words.length; i++) {
            x.name(letters(words[i]), 3);
            taste(x, "bar long # " + words[i].length() + ";");
        }
        return x;
    }

    /** One year by a taste for each standing. */
    static void year(CradleNames x, int upper, int lower) {
        x.by(0, upper);
        x.by(1, lower);
        x.years(1);
    }
}
