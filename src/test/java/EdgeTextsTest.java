/** The edges of texts: the tape, tokens, numbers, clauses, what is open, and which fault comes first. */
public final class EdgeTextsTest {
    private static final String[] WORDS = {"near", "far", "up", "same", "girls", "boys", "old", "all", "gone", "rise",
        "sound", "film", "long", "year"};
    private static final String[] OTHERS = {"worth", "bar", "past", "or", "and", "not", "min", "max"};
    private static final Due due = new Due();

    /** Due.write ends the tape at the text's length, so that its last byte is the text's last byte. */
    private static void fault(String text, int kind, int place) {
        CradleNames x = new CradleNames();
        due.is("taste [" + text + "]", Due.taste(x, text), kind == 0 ? 0 : -1);
        due.is("fault of [" + text + "]", x.fault(0), kind);
        due.is("its place in [" + text + "]", x.fault(1), place);
        due.is("tastes by [" + text + "]", x.about(4), kind == 0 ? 1 : 0);
        due.is("the tape is empty behind [" + text + "]", x.about(6), 0);
    }

    private static void fine(String text) {
        fault(text, 0, -1);
    }

    private static int worth(String text) {
        CradleNames x = new CradleNames();
        x.name(Due.letters("anna"), 3);
        due.is("taste [" + text + "]", Due.taste(x, text), 0);
        x.by(0, 0);
        return x.now(0, 0, 0, 100);
    }

    /** "Twenty bytes come behind the tape, the highest of a first .. NONE, and none come, if there would be more than 300" */
    private static void tape() {
        CradleNames x = new CradleNames();
        for (int i = 1; i < 15; i++) {
            x.feed(0x20202020, 0x20202020, 0x20202020, 0x20202020, 0x20202020);
        }
        due.is("280 bytes", x.about(6), 280);
        due.is("twenty more", x.feed(0x20202020, 0x20202020, 0x20202020, 0x20202020, 0x2020203b), 300);
        due.is("beyond 300", x.feed(0, 0, 0, 0, 0), -1);
        due.is("a semicolon alone", x.taste(), -1);
        due.is("the last byte of 300 is the lowest of e", x.fault(1), 299);
        x.feed(0x80000000, 0, 0, 0, 0);
        due.is("the highest byte is a byte without a sign", x.taste(), -1);
        due.is("it is no token", x.fault(0), 1);
        due.is("it is the first", x.fault(1), 0);
        int[][] places = {{0x25202020, 0}, {0x20252020, 1}, {0x20202520, 2}, {0x20202025, 3}};
        for (int[] p : places) {
            int blank = 0x20202020;
            for (int word = 0; word < 5; word++) {
                x.feed(word == 0 ? p[0] : blank, word == 1 ? p[0] : blank, word == 2 ? p[0] : blank,
                    word == 3 ? p[0] : blank, word == 4 ? p[0] : blank);
                x.taste();
                due.is("the byte's place", x.fault(1), 4 * word + p[1]);
            }
        }
        for (int n = 281; n < 300; n++) {
            Due.write(x, " ".repeat(n));
            due.is("from " + n + " beyond 300", x.feed(0, 0, 0, 0, 0), -1);
            due.is("none come", x.about(6), n);
        }
    }

    /** "The tape has its first n bytes alone: n. NONE, and nothing is done, if it has not so many, or n is below 0" */
    private static void end() {
        CradleNames x = new CradleNames();
        due.is("of none none", x.end(0), 0);
        due.is("of none one", x.end(1), -1);
        Due.write(x, "worth 12;");
        due.is("one more", x.end(10), -1);
        due.is("below 0", x.end(-1), -1);
        due.is("nothing was done", x.about(6), 9);
        due.is("all", x.end(9), 9);
        due.is("one less", x.end(8), 8);
        due.is("what is gone is gone", x.end(9), -1);
        due.is("a fault at the end", x.taste(), -1);
        due.is("at the length", x.fault(1), 8);
        Due.write(x, "worth 12;oh");
        x.end(9);
        due.is("the first bytes alone", x.taste(), 0);
        Due.write(x, "worth 1");
        x.feed(0x3b202020, 0x20202020, 0x20202020, 0x20202020, 0x20202020);
        due.is("bytes come behind what is left", x.taste(), 1);
        due.is("end of the empty one", x.end(0), 0);
    }

    /** "TASTES 0 .. 5: texts of up to 300 bytes" */
    private static void lengths() {
        fine("");
        fine("worth 1;" + " ".repeat(292));
        fine(" ".repeat(292) + "worth 1;");
        fine("worth " + "1+".repeat(146) + "1;");
        fault("worth " + "1+".repeat(146) + "1+", 1, 300);
        fault("worth " + "9".repeat(294), 2, 6);
        fault("w".repeat(300), 1, 0);
        fine("worth " + "0".repeat(292) + "7;");
        due.is("sums of 300 bytes", worth("worth " + "1+".repeat(146) + "1;"), 147);
        due.is("150 signs", worth("worth --------1" + "+--1".repeat(71) + ";"), 72);
        CradleNames x = new CradleNames();
        for (int i = 0; i < 6; i++) {
            due.is("taste " + i, x.taste(), i);
        }
        Due.write(x, "oh");
        due.is("a seventh", x.taste(), -1);
        due.is("the tape stays", x.about(6), 2);
        due.is("nothing was read", x.fault(0), 0);
        due.is("nor a place", x.fault(1), -1);
    }

    /** "blanks (32, 10) aside"; what is no TOKEN has fault 1 at its byte */
    private static void blanks() {
        fine(" \n worth \n near \n - \n 1 \n ; \n ");
        fine("worth near-1;");
        for (int b = 0; b < 256; b++) {
            char c = (char) b;
            boolean blank = b == 32 || b == 10;
            boolean operator = c == '+' || c == '-' || c == '*' || c == '/';
            if (blank) {
                fine("worth 1" + c + ";");
                fine("worth 1" + c + "+" + c + "1;");
            } else if (operator) {
                fault("worth 1" + c + ";", 1, 8);
            } else if (c == ';') {
                fault("worth 1" + c + ";", 1, 8);
            } else if (c >= '0' && c <= '9') {
                fine("worth 1" + c + ";");
            } else {
                fault("worth 1" + c + ";", 1, 7);
            }
        }
        fault("worth ne ar;", 1, 6);
        fault("worth ne\nar;", 1, 6);
        fault("wor th 1;", 1, 0);
        fault("worth 1 2;", 1, 8);
        fault("bar 1< =2;", 1, 7);
        fault("bar 1>\n=2;", 1, 7);
    }

    /** "letters a .. z, A .. Z one behind the other (one TOKEN), digits likewise", "(the longest)" */
    private static void tokens() {
        for (String word : WORDS) {
            fine("worth " + word + ";");
            fault("worth " + word + "s;", 1, 6);
            fault("worth s" + word + ";", 1, 6);
            fault("worth " + word.substring(0, word.length() - 1) + ";", 1, 6);
            fault("worth " + word.toUpperCase() + ";", 1, 6);
            fault("worth " + word + "Z;", 1, 6);
            fault("worth " + word + word + ";", 1, 6);
            fault("worth " + word + " " + word + ";", 1, 7 + word.length());
            fault("worth 1" + word + ";", 1, 7);
            fault("worth " + word + "1;", 1, 6 + word.length());
        }
        for (String word : OTHERS) {
            fault("worth " + word + ";", 1, word.equals("min") || word.equals("max") ? 9 : 6);
        }
        for (String edge : new String[] {"@", "[", "`", "{"}) {
            fault("worth near" + edge + ";", 1, 10);
            fault("worth " + edge + "near;", 1, 6);
        }
        fault("worth 1:;", 1, 7);
        fine("worth 1/1;");
        fine("bar 1<=2;bar 1>=2;bar 1<2;bar 1>2;bar 1=2;bar 1#2;");
        fault("bar 1=<2;", 1, 6);
        fault("bar 1=>2;", 1, 6);
        fault("bar 1<<2;", 1, 6);
        fault("bar 1<==2;", 1, 7);
        fault("bar 1<>2;", 1, 6);
        fault("bar 1==2;", 1, 6);
        fault("bar 1##2;", 1, 6);
        fault("bar 1!2;", 1, 5);
        fault("bar 1<", 1, 6);
        fault("bar 1<=", 1, 7);
        fine("bar-1<-1;");
        fine("bar(1)<(1);");
        fine("bar 1=2or 3=4and not 5=6;");
        fault("bar 1=2 orelse 1=1;", 1, 8);
    }

    /** "NUMBERS, 0 .. 9999"; fault "2 a NUMBER that isn't one of those told" */
    private static void numbers() {
        due.is("the least", worth("worth 0;"), 0);
        due.is("the greatest", worth("worth 9999;"), 9999);
        due.is("noughts ahead", worth("worth 0009999;"), 9999);
        due.is("noughts alone", worth("worth 00000000000;"), 0);
        fault("worth 10000;", 2, 6);
        fault("worth 010000;", 2, 6);
        fault("worth 65536;", 2, 6);
        fault("worth 2147483648;", 2, 6);
        fault("worth 4294967296;", 2, 6);
        fault("worth 4294967297;", 2, 6);
        fault("worth 18446744073709551617;", 2, 6);
        fault("worth 1" + "0".repeat(200) + ";", 2, 6);
        fault("worth 1-10000;", 2, 8);
        fault("worth -10000;", 2, 7);
        fault("worth min(10000,1);", 2, 10);
        fault("bar 10000=1;", 2, 4);
        fault("bar 1=10000;", 2, 6);
        fault("bar 1=1 and 10000=1;", 2, 12);
        fault("bar 1=1 or not 10000=1;", 2, 15);
        fault("worth near 10000;", 1, 11);
        fault("10000", 1, 0);
        fault("near 10000", 2, 5);
        fault("past 10000", 2, 5);
        fault("worth 10000", 2, 6);
        fault("worth 10000%", 2, 6);
        fault("worth %10000", 1, 6);
    }

    /** "near NUMBER ; (1 .. 20 YEARS; without 5) or past NUMBER ; (1 .. 60 YEARS; without 50)" */
    private static void windows() {
        int[][] edges = {{0, 2}, {1, 0}, {20, 0}, {21, 2}, {60, 2}, {9999, 2}};
        for (int[] e : edges) {
            fault("near " + e[0] + ";", e[1], e[1] == 0 ? -1 : 5);
        }
        int[][] past = {{0, 2}, {1, 0}, {21, 0}, {60, 0}, {61, 2}, {9999, 2}};
        for (int[] e : past) {
            fault("past " + e[0] + ";", e[1], e[1] == 0 ? -1 : 5);
        }
        fine("near 0020;");
        fine("past 0060;");
        fault("near 0021;", 2, 5);
        fault("near;", 1, 4);
        fault("near", 1, 4);
        fault("near ", 1, 5);
        fault("past;", 1, 4);
        fault("near 5", 1, 6);
        fault("near 5,", 1, 6);
        fault("near (5);", 1, 5);
        fault("near -5;", 1, 5);
        fault("near 5+1;", 1, 6);
        fault("near near;", 1, 5);
        fault("near 21 oh", 2, 5);
        CradleNames x = new CradleNames();
        x.name(Due.letters("anna"), 3);
        x.born(0, 0, 0, 0, 4, 3);
        x.born(0, 0, 0, 0, 5, 5);
        Due.taste(x, "worth near;");
        x.by(0, 0);
        due.is("without near five years", x.now(0, 0, 0, 100), 3);
        CradleNames y = new CradleNames();
        y.name(Due.letters("anna"), 3);
        y.born(0, 0, 0, 0, 40, 7);
        y.born(0, 0, 0, 0, 39, 2);
        y.life(90);
        Due.taste(y, "worth old;");
        y.by(0, 0);
        y.years(9);
        due.is("without past, 49 years ago", y.now(0, 0, 0, 100), 0);
        y.years(1);
        due.is("without past, 50 years ago", y.now(0, 0, 0, 100), 7);
        y.years(1);
        due.is("without past, 51 years ago", y.now(0, 0, 0, 100), 9);
    }

    /** "{CLAUSE}, 12 at most"; faults 4 and 5 */
    private static void clauses() {
        String bar = "bar 1=2;";
        fine(bar.repeat(12));
        fine(bar.repeat(9) + "worth 1;near 1;past 1;");
        fault(bar.repeat(13), 5, 96);
        fault(bar.repeat(12) + "  " + bar, 5, 98);
        fault(bar.repeat(12) + "near 21;", 5, 96);
        fault(bar.repeat(12) + "worth", 5, 96);
        fault(bar.repeat(12) + ";", 1, 96);
        fault(bar.repeat(12) + "%", 1, 96);
        fault(bar.repeat(12) + "or", 1, 96);
        fine(bar.repeat(12) + "\n ");
        fault(bar.repeat(11) + "worth 1;worth 1;", 4, 96);
        fault(bar.repeat(11) + "near 1;past 1;", 5, 95);
        fault(bar.repeat(11) + "near 1;near 1;", 4, 95);
        fault("worth 1;worth 1;", 4, 8);
        fault("worth 1;bar 1=2;worth", 4, 16);
        fault("near 1;near", 4, 7);
        fault("past 1;past", 4, 7);
        fault("worth 1;worth;", 4, 8);
        fine("worth near;near 1;");
        fine("near 1;worth near+near;bar near=near;");
        fault("worth 1;near 1;past 1;past 1;", 4, 22);
        fault("worth 10000;worth 1;", 2, 6);
        fault("worth 1;10000;", 1, 8);
    }

    /** What can't stand there, and the end at the length: after each beginning of a clause. */
    private static void ends() {
        String[] texts = {"worth min(1,near)*(2-3)/-4;", "bar not 1<=2 and max(3,4)#5 or 6>7;", "near 5;", "past 60;"};
        for (String text : texts) {
            fine(text);
            for (int n = 1; n < text.length(); n++) {
                String part = text.substring(0, n);
                CradleNames x = new CradleNames();
                due.is("taste [" + part + "]", Due.taste(x, part), -1);
                due.is("fault of [" + part + "]", x.fault(0), 1);
                boolean known = Character.isLetter(text.charAt(n - 1)) && Character.isLetter(text.charAt(n));
                int from = n;
                while (known && from > 0 && Character.isLetter(part.charAt(from - 1))) {
                    from--;
                }
                due.is("its place in [" + part + "]", x.fault(1), from);
            }
        }
        fault("worth 1;w", 1, 8);
        fault("worth (1 ", 1, 9);
        fault("worth 1 \n ", 1, 10);
    }

    /** "3 the 9th of ( not and - (of one ONE) that are open around one another (at it; min and max at their ( )" */
    private static void open() {
        fine("worth " + "(".repeat(8) + "1" + ")".repeat(8) + ";");
        fault("worth " + "(".repeat(9) + "1" + ")".repeat(9) + ";", 3, 14);
        fault("worth " + "(".repeat(9), 3, 14);
        fault("worth " + "(".repeat(8), 1, 14);
        fine("worth " + "-".repeat(8) + "1;");
        fault("worth " + "-".repeat(9) + "1;", 3, 14);
        fault("worth 1" + "-".repeat(10) + "1;", 3, 16);
        fine("worth 1" + "-".repeat(9) + "1;");
        fine("bar " + "not ".repeat(8) + "1=1;");
        fault("bar " + "not ".repeat(9) + "1=1;", 3, 36);
        fault("bar " + "not ".repeat(10) + "1=1;", 3, 36);
        fine("worth " + "min(1,".repeat(8) + "1" + ")".repeat(8) + ";");
        fault("worth " + "min(1,".repeat(9) + "1" + ")".repeat(9) + ";", 3, 57);
        fine("worth " + "max(".repeat(8) + "1" + ",1)".repeat(8) + ";");
        fault("worth " + "max(".repeat(8) + "min (", 3, 42);
        fault("worth " + "max(".repeat(8) + "min -", 1, 42);
        fault("worth " + "max(".repeat(8) + "min", 1, 41);
        fault("worth " + "min(1,".repeat(8) + "-1", 3, 54);
        fault("worth " + "(-".repeat(4) + "(", 3, 14);
        fault("worth " + "(-".repeat(4) + "-", 3, 14);
        fine("worth " + "(-".repeat(4) + "1" + ")".repeat(4) + ";");
        fine("bar " + "not ".repeat(7) + "(1)=(1);");
        fine("bar " + "not ".repeat(7) + "-1=-1;");
        fault("bar " + "not ".repeat(7) + "-(1)=1;", 3, 33);
        fault("bar " + "not ".repeat(7) + "1=(-1);", 3, 35);
        fault("bar " + "not ".repeat(8) + "(1)=1;", 3, 36);
        fault("bar " + "not ".repeat(8) + "1=min(1,1);", 3, 41);
        fine("bar " + "not ".repeat(8) + "1=1 and " + "not ".repeat(8) + "1=1 or " + "not ".repeat(8) + "1=1;");
    }

    /** What is closed is no longer open: a bracket, min and max, a minus behind its ONE, a not behind its ASK. */
    private static void closed() {
        fine("worth " + "(1)+".repeat(20) + "((((((((1))))))));");
        fine("worth " + "min(1,1)*".repeat(10) + "--------1;");
        fine("worth " + "-1*".repeat(20) + "--------1;");
        fine("worth " + "-1-".repeat(20) + "--------1;");
        fine("worth (((((((-1*-1)))))));");
        fault("worth (((((((-1*--1)))))));", 3, 17);
        fault("worth ((((((((-1))))))));", 3, 14);
        fine("worth ((((((((1))))))))*((((((((1))))))));");
        fine("worth min((((((((1))))))),(((((((1))))))));");
        fault("worth min((((((((1))))))),((((((((1)))))))));", 3, 33);
        fine("bar not 1=1 or ((((((((1))))))))=1;");
        fine("bar not 1=1 and ((((((((1))))))))=1;");
        fault("bar not 1=((((((((1))))))));", 3, 17);
        fine("bar not 1=1;worth --------1;");
    }

    /** "EITHER: BOTH {or BOTH}. BOTH: ASK {and ASK}. ASK: not ASK, or SUM one of .. SUM": no brackets around an ASK */
    private static void asks() {
        fault("bar (1=1);", 1, 6);
        fault("bar (1=1 or 1=2);", 1, 6);
        fault("bar not (1=1);", 1, 10);
        fault("bar 1=1=1;", 1, 7);
        fault("bar 1;", 1, 5);
        fault("bar;", 1, 3);
        fault("bar 1=1 or;", 1, 10);
        fault("bar 1=1 and;", 1, 11);
        fault("bar 1=1 and and 1=1;", 1, 12);
        fault("bar 1=1 or or 1=1;", 1, 11);
        fault("bar or 1=1;", 1, 4);
        fault("bar 1=1 not 1=1;", 1, 8);
        fault("bar 1=not 1;", 1, 6);
        fault("worth 1=1;", 1, 7);
        fault("worth not 1;", 1, 6);
        fault("worth 1 and 1;", 1, 8);
        fault("worth +1;", 1, 6);
        fault("worth *1;", 1, 6);
        fault("worth 1*;", 1, 8);
        fault("worth 1+;", 1, 8);
        fault("worth ();", 1, 7);
        fault("worth (1;", 1, 8);
        fault("worth (1,1);", 1, 8);
        fault("worth 1);", 1, 7);
        fault("worth min(1);", 1, 11);
        fault("worth min(1,);", 1, 12);
        fault("worth min(,1);", 1, 10);
        fault("worth min(1,1,1);", 1, 13);
        fault("worth min();", 1, 10);
        fault("worth ;", 1, 6);
        fault(";", 1, 0);
        fine("worth 1*-1;");
        fine("worth 1/-(1);");
    }

    /** "FAULTS, the first as TOKENS are come to" and the latest text alone */
    private static void latest() {
        CradleNames x = new CradleNames();
        due.is("ahead of any", x.fault(0), -1);
        due.is("its place", x.fault(1), -1);
        due.is("ahead of any, what 2", x.fault(2), -1);
        Due.taste(x, "near 21;worth 1;worth 1;");
        due.is("the first of two", x.fault(0), 2);
        due.is("its place", x.fault(1), 5);
        Due.taste(x, "worth 1;worth 1;near 21;");
        due.is("the latest text", x.fault(0), 4);
        due.is("its place", x.fault(1), 8);
        Due.taste(x, "worth 1;");
        due.is("without", x.fault(0), 0);
        due.is("no place", x.fault(1), -1);
        due.is("what 2", x.fault(2), -1);
        Due.write(x, "oh");
        due.is("what is not read does not count", x.fault(0), 0);
        x.end(0);
        due.is("nor what is taken away", x.fault(0), 0);
        x.taste();
        due.is("the empty text has none", x.fault(0), 0);
        Due.taste(x, "%");
        due.is("a place of 0", x.fault(1), 0);
    }

    public static void main(String[] args) {
        tape();
        end();
        lengths();
        blanks();
        tokens();
        numbers();
        windows();
        clauses();
        ends();
        open();
        closed();
        asks();
        latest();
        due.end();
    }
}
