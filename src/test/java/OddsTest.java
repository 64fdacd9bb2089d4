/** Promises 27, 28 and 31: room, best, chance. */
public final class OddsTest {
    private static final Due due = new Due();

    /** Two of one name, one of a like one, one of another, in place 1. */
    private static void room() {
        CradleNames x = Due.pickers("la", "lah", "miko", "samuel");
        x.cradles(1, 0, 0, 2);
        x.cradles(1, 1, 0, 1);
        Due.year(x, 0, 1);
        due.is("three: two of them", x.room(1, 0, 2, false), 333333);
        due.is("three: two alike", x.room(1, 0, 2, true), 1000000);
        due.is("three: all three", x.room(1, 0, 3, false), 1000000);
        due.is("fewer", x.room(1, 0, 4, false), -1);
        due.is("none in place 0", x.room(0, 0, 2, false), -1);
        x.cradles(1, 0, 0, 1);
        x.cradles(1, 1, 1, 1);
        Due.year(x, 2, 3);
        x.cradles(2, 0, 0, 2);
        x.years(1);
        due.is("place 2", x.room(2, 2, 2, false), 1000000);
        due.is("n 1", x.room(1, 0, 1, false), -1);
        due.is("n 9", x.room(1, 0, 9, false), -1);
        due.is("place 3", x.room(3, 0, 2, false), -1);
        due.is("place -1", x.room(-1, 0, 2, false), -1);
        due.is("not gone by", x.room(1, 3, 2, false), -1);
        due.is("year -1", x.room(1, -1, 2, false), -1);
        due.is("1 of miko, 2 of samuel, two of them", x.room(1, 1, 2, false), 333333);
        due.is("not alike", x.room(1, 1, 2, true), 333333);
        due.is("three of them", x.room(1, 1, 3, true), 1000000);
    }

    /** Sixteen names, four with six each and some alike; the answers by another reckoning. */
    private static void roomOfMany() {
        CradleNames x = new CradleNames();
        String[] words = {"aj", "ah", "alr", "hjrl", "lrhja", "rjhlaj"};
        for (String word : words) {
            x.name(Due.letters(word), 3);
        }
        Due.taste(x, "worth -near;");
        x.by(0, 0);
        x.by(1, 0);
        for (int i = 0; i < 4; i++) {
            x.cradles(0, i / 2, i % 2, 6);
        }
        x.years(1);
        // four of each; 24 children
        due.is("two of 24", x.room(0, 0, 2, false), 6 * 6 * 1000000 / 276);
        due.is("two of 24, a pair alike", x.room(0, 0, 2, true), (36 + 16) * 1000000 / 276);
        due.is("six of 24", x.room(0, 0, 6, false), (134596L - 4096) * 1000000 / 134596);
        due.is("six of 24, a pair alike", x.room(0, 0, 6, true), 1000000);
        due.is("five of 24, a pair alike", x.room(0, 0, 5, true), (42504L - 2 * 1024) * 1000000 / 42504);
        due.is("seven of 24", x.room(0, 0, 7, false), 1000000);
        due.is("eight of 24", x.room(0, 0, 8, true), 1000000);
    }

    private static void best() {
        CradleNames x = new CradleNames();
        x.name(Due.letters("anna"), 1);
        x.name(Due.letters("ella"), 1);
        x.name(Due.letters("emma"), 1);
        x.name(Due.letters("gundrun"), 1);
        x.name(Due.letters("otto"), 2);
        x.name(Due.letters("hildgard"), 1);
        Due.taste(x, "worth 10-long;");
        Due.taste(x, "worth long;bar long=7;");
        Due.taste(x, "bar long<99;");
        x.by(0, 0);
        due.is("no year went by", x.best(0, 0, 0, 0), -1);
        x.cradles(0, 0, 0, 2);
        x.cradles(1, 0, 0, 5);
        x.years(1);
        // anna twice; alike is emma, not ella
        due.is("fewest, then worth", x.best(0, 0, 0, 0), 1);
        due.is("how many", x.best(0, 0, 0, 1), 0);
        due.is("a boy's", x.best(0, 0, 1, 0), 4);
        due.is("without a taste", x.best(0, 1, 0, 0), -1);
        x.by(0, 1);
        due.is("the longest that may", x.best(0, 0, 0, 0), 5);
        x.list(1, 0b101);
        due.is("of anna and emma the lowest", x.best(0, 0, 0, 0), 0);
        due.is("two had it or an alike one", x.best(0, 0, 0, 1), 2);
        due.is("in place 1 five", x.best(1, 0, 0, 1), 5);
        due.is("in place 2 none", x.best(2, 0, 0, 1), 0);
        x.by(0, 2);
        due.is("none may", x.best(0, 0, 0, 0), -1);
        due.is("none may, 1", x.best(0, 0, 0, 1), -1);
        x.by(0, 0);
        due.is("what 2", x.best(0, 0, 0, 2), -1);
        due.is("what -1", x.best(0, 0, 0, -1), -1);
        due.is("place 3", x.best(3, 0, 0, 0), -1);
        due.is("standing 2", x.best(0, 2, 0, 0), -1);
        due.is("sex -1", x.best(0, 0, -1, 0), -1);
        x.years(20);
        x.years(20);
        x.years(19);
        due.is("at 60", x.best(0, 0, 0, 0), 0);
        x.years(1);
        due.is("at 61", x.best(0, 0, 0, 0), -1);
    }

    /** So many cradles, up to 36 of them in one standing. */
    private static void fill(CradleNames x, int standing, int many) {
        int left = many;
        for (int place = 0; place < 3; place++) {
            for (int sex = 0; sex < 2; sex++) {
                int n = Math.min(left, 6);
                x.cradles(place, standing, sex, n);
                left -= n;
            }
        }
    }

    private static CradleNames halves(int each, int then) {
        CradleNames x = Due.pickers("la", "bro", "lore");
        fill(x, 0, each);
        fill(x, 1, each);
        Due.year(x, 0, 1);
        fill(x, 0, then > 36 ? 36 : then);
        fill(x, 1, then > 36 ? then - 36 : 0);
        Due.year(x, 0, 0);
        return x;
    }

    private static void chance() {
        CradleNames x = halves(1, 2);
        due.is("1 in 4 is 1 in 4", x.chance(0, 1, 4), 1);
        due.is("1 in 4 is not 1 in 5", x.chance(0, 1, 5), 0);
        due.is("below, 1 in 4", x.chance(1, 1, 4), 2);
        due.is("below, not 1 in 5", x.chance(1, 1, 5), 0);
        due.is("never given", x.chance(2, 1, 2), 0);
        due.is("how many by 4", x.chance(-1, 1, 4), 2);
        due.is("how many by 5", x.chance(-1, 1, 5), 0);
        due.is("told 1", x.chance(0, 1, 1), -1);
        due.is("told 1000001", x.chance(0, 1, 1000001), -1);
        due.is("year 0", x.chance(0, 0, 2), -1);
        due.is("not gone by", x.chance(0, 2, 2), -1);
        due.is("name 3", x.chance(3, 1, 2), -1);
        due.is("name -2", x.chance(-2, 1, 2), -1);
        CradleNames y = halves(7, 19);
        due.is("1 in 524288", y.chance(0, 1, 524288), 1);
        due.is("not 1 in 524289", y.chance(0, 1, 524289), 0);
        due.is("below 1 in 524288", y.chance(1, 1, 524288), 2);
        due.is("below not 1 in 524289", y.chance(1, 1, 524289), 0);
        CradleNames z = halves(36, 72);
        due.is("72 of 72", z.chance(0, 1, 1000000), 1);
        due.is("none of 72", z.chance(1, 1, 1000000), 2);
        due.is("two of them", z.chance(-1, 1, 1000000), 2);
        Due.year(z, 0, 0);
        due.is("all, behind all", z.chance(0, 2, 2), 0);
        due.is("none, behind none", z.chance(1, 2, 2), 0);
        Due.year(z, 0, 2);
        due.is("less than all", z.chance(0, 3, 1000000), 2);
        due.is("from nothing", z.chance(2, 3, 1000000), 1);
        fill(z, 0, 0);
        fill(z, 1, 0);
        Due.year(z, 0, 0);
        due.is("none was given any", z.chance(0, 4, 2), -1);
        fill(z, 0, 3);
        Due.year(z, 0, 0);
        due.is("none the year ahead", z.chance(0, 5, 2), -1);
    }

    /** 40 of 72, when half of them had it: odds 0.205; and 44: odds 0.038, just 1 in 26 by cut. */
    private static void chanceOfMany() {
        CradleNames x = Due.pickers("la", "bro", "lore");
        fill(x, 0, 36);
        fill(x, 1, 36);
        Due.year(x, 0, 1);
        Due.taste(x, "worth -all;");
        x.by(0, 3);
        x.by(1, 0);
        x.list(1, 0b11);
        x.years(1);
        // the upper standing turns to the rarer, the lower one brings the first
        int n = x.given(1, -1, -1, -1, 0);
        double above = 0;
        double below = 0;
        double ways = 1;
        for (int k = 0; k <= 72; k++) {
            above += k >= n ? ways : 0;
            below += k <= n ? ways : 0;
            ways = ways * (72 - k) / (k + 1);
        }
        double all = Math.pow(2, 72);
        int told = (int) Math.floor(all / above);
        due.is("more than half came", n > 36, true);
        due.is("above by " + told, x.chance(0, 1, told), 1);
        due.is("not above by " + (told + 1), x.chance(0, 1, told + 1), 0);
        due.is("the other is below by " + told, x.chance(1, 1, told), 2);
        due.is("the other is not by " + (told + 1), x.chance(1, 1, told + 1), 0);
        due.is("above comes first", below > above, true);
    }

    public static void main(String[] args) {
        room();
        roomOfMany();
        best();
        chance();
        chanceOfMany();
        due.end();
    }
}
