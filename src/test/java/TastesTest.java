/** Promises 10 to 14, and what tastes say: feed, end, taste, fault, by. */
public final class TastesTest {
    private static final Due due = new Due();

    private static void tape() {
        CradleNames x = new CradleNames();
        due.is("end(0) of an empty tape", x.end(0), 0);
        due.is("end(1) of an empty tape", x.end(1), -1);
        for (int i = 1; i <= 15; i++) {
            due.is("feed", x.feed(-1, 0, 1, 2, 3), 20 * i);
        }
        due.is("feed beyond 300", x.feed(0, 0, 0, 0, 0), -1);
        due.is("about", x.about(6), 300);
        due.is("end(301)", x.end(301), -1);
        due.is("end(-1)", x.end(-1), -1);
        due.is("end(281)", x.end(281), 281);
        due.is("feed beyond 300 from 281", x.feed(0, 0, 0, 0, 0), -1);
        due.is("it stays", x.about(6), 281);
        due.is("end(280)", x.end(280), 280);
        due.is("feed to 300", x.feed(0, 0, 0, 0, 0), 300);
        due.is("end(0)", x.end(0), 0);
        // "bar 1 < 2 ; worth 7;", its highest bytes first
        due.is("feed a text", x.feed(0x62617220, 0x31203c20, 0x32203b20, 0x776f7274, 0x6820373b), 20);
        due.is("it is a taste", x.taste(), 0);
        due.is("the tape is empty", x.about(6), 0);
        x.name(Due.letters("ab"), 3);
        x.by(0, 0);
        due.is("its worth", x.now(0, 0, 0, 100), 7);
        due.is("its bar", x.now(0, 0, 0, 200), 0);
    }

    private static void tastes() {
        CradleNames x = new CradleNames();
        due.is("fault(0) ahead of any", x.fault(0), -1);
        due.is("fault(1) ahead of any", x.fault(1), -1);
        Due.write(x, "worth 1");
        due.is("not yet read", x.fault(0), -1);
        due.is("a fault", x.taste(), -1);
        due.is("kind", x.fault(0), 1);
        due.is("place", x.fault(1), 7);
        due.is("fault(2)", x.fault(2), -1);
        due.is("fault(-1)", x.fault(-1), -1);
        due.is("the tape is empty", x.about(6), 0);
        due.is("no taste", x.about(4), 0);
        for (int i = 0; i < 6; i++) {
            due.is("taste " + i, Due.taste(x, "worth " + i + ";"), i);
            due.is("no fault", x.fault(0), 0);
            due.is("no place", x.fault(1), -1);
        }
        Due.write(x, "worth");
        due.is("a seventh", x.taste(), -1);
        due.is("the tape stays", x.about(6), 5);
        due.is("it was not read", x.fault(0), 0);
        due.is("six", x.about(4), 6);
    }

    private static void by() {
        CradleNames x = new CradleNames();
        due.is("no tastes", x.by(0, 0), false);
        due.is("none", x.by(0, -1), true);
        Due.taste(x, "");
        Due.taste(x, "worth 1;");
        due.is("taste 1", x.by(0, 1), true);
        due.is("taste 0", x.by(1, 0), true);
        due.is("upper", x.about(10), 1);
        due.is("lower", x.about(11), 0);
        due.is("taste 2", x.by(0, 2), false);
        due.is("taste -2", x.by(0, -2), false);
        due.is("standing 2", x.by(2, 0), false);
        due.is("standing -1", x.by(-1, 0), false);
        due.is("it stays", x.about(10), 1);
        x.name(Due.letters("ab"), 3);
        x.cradles(0, 0, 0, 1);
        x.years(1);
        due.is("none from now on", x.by(0, -1), true);
        due.is("upper none", x.about(10), -1);
        x.years(1);
        due.is("year 0", x.given(0, -1, -1, -1, 0), 1);
        due.is("year 1", x.given(1, -1, -1, -1, 0), 0);
        due.is("year 1 unnamed", x.unnamed(1), 1);
    }

    private static void fault(String text, int kind, int place) {
        CradleNames x = new CradleNames();
        due.is("[" + text + "]", Due.taste(x, text), kind == 0 ? 0 : -1);
        due.is("fault of [" + text + "]", x.fault(0), kind);
        due.is("place in [" + text + "]", x.fault(1), place);
    }

    private static void faults() {
        fault("", 0, -1);
        fault(" \n  ", 0, -1);
        fault("worth 1;", 0, -1);
        fault("worth\n1;near5;past60;near>", 4, 21);
        fault("near5;past60;", 0, -1);
        fault("worth;", 1, 5);
        fault("worth 1", 1, 7);
        fault("worth 1  ", 1, 9);
        fault("worth 1;;", 1, 8);
        fault("worth 1%2;", 1, 7);
        fault("worth 1\t;", 1, 7);
        fault("worth \u00e9;", 1, 6);
        fault("Worth 1;", 1, 0);
        fault("worth Near;", 1, 6);
        fault("worth nearfar;", 1, 6);
        fault("worth nearz;", 1, 6);
        fault("worth nearZ;", 1, 6);
        fault("worth nearA;", 1, 6);
        fault("worth neara;", 1, 6);
        fault("worth near@;", 1, 10);
        fault("worth near[;", 1, 10);
        fault("worth near{;", 1, 10);
        fault("worth near`;", 1, 10);
        fault("worth near/;", 1, 11);
        fault("worth near:;", 1, 10);
        fault(";".repeat(300), 1, 0);
        fault("1;".repeat(150), 1, 0);
        fault("z".repeat(300), 1, 0);
        fault("9".repeat(300), 1, 0);
        fault(" ".repeat(300), 0, -1);
        fault("<".repeat(300), 1, 0);
        fault("worth near far;", 1, 11);
        fault("worth near5;", 1, 10);
        fault("worth 5near;", 1, 7);
        fault("worth past;", 1, 6);
        fault("worth 1 or 2;", 1, 8);
        fault("worth not 1;", 1, 6);
        fault("worth 1<2;", 1, 7);
        fault("worth 1+*2;", 1, 8);
        fault("worth +1;", 1, 6);
        fault("worth ();", 1, 7);
        fault("worth (1;", 1, 8);
        fault("worth 1);", 1, 7);
        fault("worth min 1,2);", 1, 10);
        fault("worth min(1;2);", 1, 11);
        fault("worth max(1,2;", 1, 13);
        fault("worth max(1,2,3);", 1, 13);
        fault("worth min;", 1, 9);
        fault("1;", 1, 0);
        fault("far 5;", 1, 0);
        fault("bar 1;", 1, 5);
        fault("bar (1<2);", 1, 6);
        fault("bar 1<2<3;", 1, 7);
        fault("bar 1< =2;", 1, 7);
        fault("bar 1=<2;", 1, 6);
        fault("bar 1<=2;bar 1>=2;bar 1#2;bar(1)=-1;", 0, -1);
        fault("bar 1=1 or;", 1, 10);
        fault("bar 1=1 and", 1, 11);
        fault("bar not;", 1, 7);
        fault("near;", 1, 4);
        fault("near -1;", 1, 5);
        fault("near near;", 1, 5);
        fault("near 5 5;", 1, 7);
        fault("near 0;", 2, 5);
        fault("near 1;", 0, -1);
        fault("near 20;", 0, -1);
        fault("near 21;", 2, 5);
        fault("past 0;", 2, 5);
        fault("past 1;", 0, -1);
        fault("past 60;", 0, -1);
        fault("past 61;", 2, 5);
        fault("worth 9999;", 0, -1);
        fault("worth 10000;", 2, 6);
        fault("worth 4294967297;", 2, 6);
        fault("near 4294967297;", 2, 5);
        fault("worth near 10000;", 1, 11);
        fault("worth 10000 1;", 2, 6);
        fault("worth 1;worth 2;", 4, 8);
        fault("near 1;near 0;", 4, 7);
        fault("past 1;worth 1;past 1;", 4, 15);
        fault("worth near;near 3;", 0, -1);
    }

    private static void depth() {
        fault("worth ((((((((1))))))));", 0, -1);
        fault("worth (((((((((1)))))))));", 3, 14);
        fault("worth --------1;", 0, -1);
        fault("worth ---------1;", 3, 14);
        fault("worth -(-(-(-(1))));", 0, -1);
        fault("worth -(-(-(-(-1))));", 3, 14);
        fault("worth -(-(-(-(1-1))));", 0, -1);
        fault("worth (1)+(1)*(1)-(1)+(1)+(1)+(1)+(1)+(1)+-1+-1;", 0, -1);
        fault("bar " + "not ".repeat(8) + "1<2;", 0, -1);
        fault("bar " + "not ".repeat(9) + "1<2;", 3, 36);
        fault("bar " + "not ".repeat(7) + "(1)<-2;", 0, -1);
        fault("bar " + "not ".repeat(8) + "1<(2);", 3, 38);
        fault("bar " + "not ".repeat(8) + "1<-2;", 3, 38);
        fault("bar " + "not ".repeat(8) + "1<2 and " + "not ".repeat(8) + "1<2;", 0, -1);
        fault("worth " + "min(1,".repeat(8) + "1" + ")".repeat(8) + ";", 0, -1);
        fault("worth " + "min(1,".repeat(9) + "1" + ")".repeat(9) + ";", 3, 57);
        fault("worth " + "max(".repeat(9) + "1", 3, 41);
        fault("worth ((((((((min 1", 1, 18);
        fault("bar 1=2;".repeat(12), 0, -1);
        fault("bar 1=2;".repeat(13), 5, 96);
        fault("bar 1=2;".repeat(12) + "worth 1;", 5, 96);
        fault("bar 1=2;".repeat(11) + "worth 1;worth 1;", 4, 96);
        fault("bar 1=2;".repeat(12) + "far", 1, 96);
        fault("bar 1=2;".repeat(12) + " ", 0, -1);
        fault("worth 1" + "+1".repeat(146) + ";", 0, -1);
        fault("worth 1" + "+1".repeat(146) + "+", 1, 300);
    }

    private static CradleNames heard(int life) {
        CradleNames x = new CradleNames();
        x.life(life);
        x.name(Due.letters("anna"), 3);
        x.name(Due.letters("lena"), 1);
        x.name(Due.letters("ida"), 1);
        x.name(Due.letters("otto"), 2);
        x.born(0, 1, 0, 0, 1, 3);
        x.born(0, 1, 1, 1, 2, 4);
        x.born(0, 0, 0, 0, 4, 5);
        x.born(0, 2, 1, 0, 5, 6);
        x.born(0, 0, 0, 1, 40, 7);
        x.born(1, 0, 0, 0, 1, 2);
        x.born(2, 1, 1, 0, 1, 9);
        x.born(2, 1, 1, 0, 2, 30);
        x.film(0, 0, 77);
        return x;
    }

    private static void worth(CradleNames x, int standing, int name, String text, int want) {
        x.back();
        due.is("taste [" + text + "]", Due.taste(x, text), 0);
        x.by(standing, 0);
        due.is("worth of [" + text + "] for " + name, x.now(1, standing, 0, 100 + name), want);
    }

    private static void words() {
        CradleNames x = heard(60);
        x.image();
        worth(x, 1, 0, "worth near;", 7);
        worth(x, 1, 0, "worth far;", 5);
        worth(x, 1, 0, "worth up;", 8);
        worth(x, 0, 0, "worth up;", 0);
        worth(x, 1, 0, "worth same;", 4);
        worth(x, 0, 0, "worth same;", 8);
        worth(x, 1, 0, "near 1;worth near;", 0);
        worth(x, 1, 0, "worth near;near 2;", 3);
        worth(x, 1, 0, "near 6;worth far;", 11);
        worth(x, 1, 0, "near 6;worth same;", 10);
        worth(x, 1, 0, "near 4;worth up;", 3);
        worth(x, 1, 0, "worth girls;", 14);
        worth(x, 1, 0, "worth boys;", 11);
        worth(x, 1, 0, "worth all;", 25);
        worth(x, 1, 0, "worth old;", 0);
        worth(x, 1, 0, "past 41;worth old;", 0);
        worth(x, 1, 0, "worth old;past 40;", 7);
        worth(x, 1, 0, "past 5;worth old;", 13);
        worth(x, 1, 0, "past 1;worth old;", 25);
        worth(x, 1, 0, "worth gone;", 1);
        worth(x, 1, 3, "worth gone;", 99);
        worth(x, 1, 0, "worth rise;", -1);
        worth(x, 1, 2, "worth rise;", -21);
        worth(x, 1, 0, "worth sound;", 11);
        worth(x, 1, 1, "worth sound;", 12);
        worth(x, 1, 3, "worth sound;", 0);
        worth(x, 1, 0, "worth film;", 77);
        worth(x, 1, 1, "worth film;", 0);
        worth(x, 1, 0, "worth long;", 4);
        worth(x, 1, 2, "worth long;", 3);
        worth(x, 1, 0, "worth year;", 0);
        worth(x, 1, 0, "bar 1=2;", 0);
        CradleNames y = heard(40);
        y.image();
        worth(y, 1, 0, "worth boys;", 4);
        worth(y, 1, 0, "worth all;", 18);
        worth(y, 1, 0, "past 40;worth old;", 0);
        CradleNames z = heard(41);
        z.image();
        worth(z, 1, 0, "worth boys;", 11);
        CradleNames late = heard(20);
        Due.taste(late, "bar long # 3;");
        late.by(1, 0);
        late.cradles(1, 1, 0, 1);
        late.years(3);
        late.cradles(1, 1, 0, 0);
        late.years(16);
        late.by(1, -1);
        late.years(1);
        late.name(Due.letters("never"), 1);
        due.is("a second taste", Due.taste(late, "worth gone*1000+year*10+all;"), 1);
        late.by(1, 1);
        due.is("given last in 2, two living in 20", late.now(1, 1, 0, 102), 18202);
        due.is("anna at 20", late.now(1, 1, 0, 100), 21200);
        due.is("never given", late.now(1, 1, 0, 104), 99200);
        late.years(20);
        late.years(20);
        due.is("given last in 2, none living in 60", late.now(1, 1, 0, 102), 58600);
    }

    private static void goneAtMost() {
        CradleNames x = new CradleNames();
        x.name(Due.letters("ab"), 1);
        x.born(0, 0, 0, 0, 40, 1);
        Due.taste(x, "worth gone;");
        x.by(0, 0);
        due.is("gone 40", x.now(0, 0, 0, 100), 40);
        x.years(20);
        x.years(20);
        x.years(19);
        due.is("gone 99", x.now(0, 0, 0, 100), 99);
        x.years(1);
        due.is("gone 99 at most", x.now(0, 0, 0, 100), 99);
    }

    private static void reckoning() {
        CradleNames x = heard(60);
        x.image();
        worth(x, 0, 0, "worth 7/2;", 3);
        worth(x, 0, 0, "worth -7/2;", -3);
        worth(x, 0, 0, "worth 7/-2;", -3);
        worth(x, 0, 0, "worth -7/-2;", 3);
        worth(x, 0, 0, "worth 7/0;", 0);
        worth(x, 0, 0, "worth 7/(3-3)+2;", 2);
        worth(x, 0, 0, "worth 2+3*4;", 14);
        worth(x, 0, 0, "worth (2+3)*4;", 20);
        worth(x, 0, 0, "worth 10-3-2;", 5);
        worth(x, 0, 0, "worth 100/5/2;", 10);
        worth(x, 0, 0, "worth 100/5*2;", 40);
        worth(x, 0, 0, "worth --5;", 5);
        worth(x, 0, 0, "worth 1--5;", 6);
        worth(x, 0, 0, "worth -2*3+1;", -5);
        worth(x, 0, 0, "worth -(2-5);", 3);
        worth(x, 0, 0, "worth min(3,2)*10+max(3,2);", 23);
        worth(x, 0, 0, "worth min(2,3)*10+max(2,3);", 23);
        worth(x, 0, 0, "worth max(-3,-2);", -2);
        worth(x, 0, 0, "worth 9999*9999;", 99980001);
        worth(x, 0, 0, "worth 9999*9999*9999;", 1000000000);
        worth(x, 0, 0, "worth -9999*9999*9999;", -1000000000);
        worth(x, 0, 0, "worth 9999*9999*9999*9999*9999;", 1000000000);
        worth(x, 0, 0, "worth 9999*9999*9999+1-1;", 999999999);
        worth(x, 0, 0, "worth 9999*9999*9999/9999;", 100010);
        worth(x, 0, 0, "worth -9999*9999*9999-1+1;", -999999999);
        worth(x, 0, 0, "worth -9999*9999*9999*(0-9999*9999*9999);", 1000000000);
    }

    private static void bar(String text, int may) {
        CradleNames x = heard(60);
        due.is("taste [" + text + "]", Due.taste(x, text), 0);
        x.by(0, 0);
        due.is("may by [" + text + "]", x.now(0, 0, 0, 200), may);
    }

    private static void bars() {
        String[] signs = {"<", "<=", ">", ">=", "=", "#"};
        int[] less = {1, 1, 0, 0, 0, 1};
        int[] same = {0, 1, 0, 1, 1, 0};
        int[] more = {0, 0, 1, 1, 0, 1};
        for (int i = 0; i < 6; i++) {
            bar("bar 1" + signs[i] + "2;", 1 - less[i]);
            bar("bar 2" + signs[i] + "2;", 1 - same[i]);
            bar("bar 3" + signs[i] + "2;", 1 - more[i]);
            bar("bar not 3" + signs[i] + "2;", more[i]);
            bar("bar not 2" + signs[i] + "2;", same[i]);
            bar("bar not 1" + signs[i] + "2;", less[i]);
            bar("bar 1" + signs[i] + "2 and 1#2;", 1 - less[i]);
            bar("bar 2" + signs[i] + "2 and 1#2;", 1 - same[i]);
            bar("bar 3" + signs[i] + "2 and 1#2;", 1 - more[i]);
        }
        bar("bar 1=1 or 1=1 and 1=2;", 0);
        bar("bar 1=2 and 1=1 or 1=1;", 0);
        bar("bar 1=2 and 1=1 or 1=2;", 1);
        bar("bar 1=2 or 1=2 or 1=1;", 0);
        bar("bar 1=1 and 1=1 and 1=2;", 1);
        bar("bar not 1=2 and 1=2;", 1);
        bar("bar not 1=1 or 1=1;", 0);
        bar("bar not not 1=1;", 0);
        bar("bar 1=2;bar 1=1;bar 1=2;", 0);
        bar("bar 1=2;bar 1=2;worth 5;", 1);
        bar("", 1);
    }

    public static void main(String[] args) {
        tape();
        tastes();
        by();
        faults();
        depth();
        words();
        goneAtMost();
        reckoning();
        bars();
        due.end();
    }
}
