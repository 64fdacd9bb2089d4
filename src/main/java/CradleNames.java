import java.util.Arrays;

/** Cradles of a land, their names by told tastes, and what the rows of names tell. */
public final class CradleNames {
    public static final int NONE = -1;

    private static final int FIRST_YEAR = -40;
    private static final int LAST_YEAR = 60;
    private static final int YEARS_TOLD = 40;
    private static final int YEARS_GOING = 61;
    private static final int PLACES = 3;
    private static final int STANDINGS = 2;
    private static final int SEXES = 2;
    private static final int NAMES = 16;
    private static final int LETTERS = 10;
    private static final int ALL_NAMES = 65535;
    private static final int LISTS = 8;
    private static final int FILMS = 8;
    private static final int TASTES = 6;
    private static final int PRINTED = 150;
    private static final int NO_ANSWER = -1000;
    private static final int NO_WORTH = -2000000000;

    // Rows of one year: place by place, standing by standing, sex by sex.
    private static final int ROWS = 12;
    // A row holds four bits a name, as it has six cradles at most; so do two rows together.
    private static final int NAME_BITS = 4;
    private static final int NAME_MASK = 15;

    // Sums of one year: three places, two standings, girls, all; each name by name.
    private static final int OF_PLACE = 0;
    private static final int OF_STANDING = 3;
    private static final int OF_GIRLS = 5;
    private static final int OF_ALL = 6;
    private static final int SUMS = 112;

    // Tokens; those from NEAR to OVER are also the steps of a taste's code.
    private static final int NEAR = 0;
    private static final int FAR = 1;
    private static final int UP = 2;
    private static final int SAME = 3;
    private static final int GIRLS = 4;
    private static final int BOYS = 5;
    private static final int OLD = 6;
    private static final int ALL = 7;
    private static final int GONE = 8;
    private static final int RISE = 9;
    private static final int SOUND = 10;
    private static final int FILM = 11;
    private static final int LONG = 12;
    private static final int YEAR = 13;
    private static final int WORDS = 14;
    private static final int WORTH = 14;
    private static final int BAR = 15;
    private static final int PAST = 16;
    private static final int OR = 17;
    private static final int AND = 18;
    private static final int NOT = 19;
    private static final int MIN = 20;
    private static final int MAX = 21;
    private static final int LETTER_TOKENS = 22;
    private static final int BELOW = 22;
    private static final int AT_MOST = 23;
    private static final int ABOVE = 24;
    private static final int AT_LEAST = 25;
    private static final int EQUAL = 26;
    private static final int UNLIKE = 27;
    private static final int PLUS = 28;
    private static final int MINUS = 29;
    private static final int TIMES = 30;
    private static final int OVER = 31;
    private static final int OPEN = 32;
    private static final int CLOSE = 33;
    private static final int COMMA = 34;
    private static final int SEMICOLON = 35;
    private static final int NUMBER = 36;
    private static final int END = 37;
    private static final int NO_TOKEN = 38;
    private static final int HALT = 39;
    // Steps that no token stands for: a minus of one, and numbers, each by its value.
    private static final int NEGATE = 40;
    private static final int NUMBERS = 100;

    private final Names names;
    private final Land land;
    private final Book book;
    private final Book run;
    private final Taste[] tastes;
    private int tasteCount;
    private final Reader reader;
    private final Judge judge;
    private final Course course;
    private final Trails trails;
    private final Odds odds;
    private final Press press;
    private final Image kept;

    public CradleNames() {
        names = new Names();
        land = new Land();
        book = new Book();
        run = new Book();
        tastes = new Taste[TASTES];
        for (int i = 0; i < TASTES; i++) {
            tastes[i] = new Taste();
        }
        reader = new Reader(tastes[0]);
        judge = new Judge(names, land, book, tastes[0]);
        course = new Course(names, land, tastes, judge);
        trails = new Trails(names, land, book);
        odds = new Odds();
        press = new Press();
        kept = new Image();
        kept.keep(land, book);
    }

    public int name(long letters, int sexes) {
        int length = Names.lengthOf(letters);
        if (length == 0 || !within(sexes, 1, 3) || names.count >= NAMES || names.knows(letters)) {
            return NONE;
        }
        press.forgetRuns();
        return names.add(letters, length, sexes, land.clock);
    }

    public int of(int name, int what) {
        if (!names.has(name)) {
            return NONE;
        }
        switch (what) {
            case 0: return names.lengths[name];
            case 1: return names.sexes[name];
            case 2: return names.lowestOfEnding(name);
            case 3: return names.soundCounts[name];
            case 4: return trails.livingAt(name, land.clock - 1);
            default: return NONE;
        }
    }

    public int alike(int one, int other) {
        if (!names.has(one) || !names.has(other)) {
            return NONE;
        }
        return names.akin(one, other) ? 1 : 0;
    }

    public int born(int name, int place, int standing, int sex, int ago, int n) {
        if (land.clock != 0 || !names.has(name) || !isRow(place, standing, sex)) {
            return NONE;
        }
        if (!within(ago, 1, YEARS_TOLD) || !within(n, 1, 99)) {
            return NONE;
        }
        int cell = Land.toldCell(-ago, Land.row(place, standing, sex), name);
        if (land.told[cell] + n > 9999) {
            return NONE;
        }
        land.told[cell] += n;
        book.addSums(-ago, place, standing, sex, name, n);
        press.forgetRuns();
        return land.told[cell];
    }

    public boolean life(int years) {
        if (land.clock != 0 || !within(years, 20, 90)) {
            return false;
        }
        land.lifeYears = years;
        press.forgetRuns();
        return true;
    }

    public boolean cradles(int place, int standing, int sex, int n) {
        if (!isRow(place, standing, sex) || !within(n, 0, 6)) {
            return false;
        }
        land.cradlesNow[Land.row(place, standing, sex)] = n;
        press.forgetRuns();
        return true;
    }

    public int list(int from, int names) {
        if (land.listCount >= LISTS || !within(from, land.clock, LAST_YEAR)) {
            return NONE;
        }
        int there = (1 << this.names.count) - 1;
        press.forgetRuns();
        return land.addList(from, names & there);
    }

    public int film(int name, int year, int points) {
        if (land.filmCount >= FILMS || !names.has(name)) {
            return NONE;
        }
        if (!within(year, land.clock, LAST_YEAR) || !within(points, 1, 999)) {
            return NONE;
        }
        press.forgetRuns();
        return land.addFilm(name, year, points);
    }

    public int feed(int a, int b, int c, int d, int e) {
        if (!reader.hasRoom()) {
            return NONE;
        }
        reader.put(a);
        reader.put(b);
        reader.put(c);
        reader.put(d);
        reader.put(e);
        return reader.length;
    }

    public int end(int n) {
        if (!within(n, 0, reader.length)) {
            return NONE;
        }
        reader.length = n;
        return n;
    }

    public int taste() {
        if (tasteCount >= TASTES || !reader.read(tastes[tasteCount])) {
            return NONE;
        }
        tasteCount++;
        return tasteCount - 1;
    }

    public int fault(int what) {
        if (what == 0) {
            return reader.fault;
        }
        return what == 1 ? reader.place : NONE;
    }

    public boolean by(int standing, int taste) {
        if (!within(standing, 0, STANDINGS - 1) || !within(taste, NONE, tasteCount - 1)) {
            return false;
        }
        land.heldNow[standing] = taste;
        return true;
    }

    public int years(int n) {
        if (!within(n, 1, 20) || land.clock + n > YEARS_GOING) {
            return NONE;
        }
        for (int i = 0; i < n; i++) {
            int unnamed = course.pass(book, land.clock, NONE);
            land.closeYear(unnamed);
        }
        book.open(land.clock);
        return land.clock;
    }

    public int given(int year, int place, int standing, int sex, int name) {
        if (!within(year, FIRST_YEAR, land.clock - 1) || !within(name, NONE, names.count - 1)) {
            return NONE;
        }
        if (!within(place, NONE, PLACES - 1) || !within(standing, NONE, STANDINGS - 1)
                || !within(sex, NONE, SEXES - 1)) {
            return NONE;
        }
        int all = 0;
        for (int row = 0; row < ROWS; row++) {
            boolean meant = isOrAll(place, Land.placeOf(row)) && isOrAll(standing, Land.standingOf(row))
                    && isOrAll(sex, Land.sexOf(row));
            for (int i = 0; i < names.count && meant; i++) {
                if (isOrAll(name, i)) {
                    all += year < 0 ? land.told[Land.toldCell(year, row, i)] : book.inRow(year, row, i);
                }
            }
        }
        return all;
    }

    public int unnamed(int year) {
        if (year == NONE) {
            int all = 0;
            for (int y = 0; y < land.clock; y++) {
                all += land.unnamedThen[y];
            }
            return all;
        }
        return land.wentBy(year) ? land.unnamedThen[year] : NONE;
    }

    public int now(int place, int standing, int sex, int what) {
        if (!isRow(place, standing, sex) || !weighAll(place, standing, sex)) {
            return NO_WORTH;
        }
        if (what == 0) {
            return judge.pick();
        }
        if (what == 1) {
            int pick = judge.pick();
            return pick == NONE ? NO_WORTH : judge.worths[pick];
        }
        if (within(what, 100, 99 + names.count)) {
            return judge.worths[what - 100];
        }
        if (within(what, 200, 199 + names.count)) {
            return judge.mays[what - 200] ? 1 : 0;
        }
        return NO_WORTH;
    }

    public int shape(int name, int what) {
        if (!names.has(name) || !within(what, 0, 3)) {
            return NONE;
        }
        int peak = trails.peak(name);
        if (peak == NONE || what == 0) {
            return peak;
        }
        if (what == 1) {
            return trails.in(name, peak);
        }
        return trails.slope(name, peak, what == 2 ? -1 : 1);
    }

    public int shapes(int what) {
        return within(what, 0, 1) ? trails.pairs(what == 0) : NONE;
    }

    public int lag(int what) {
        if (land.clock == 0) {
            return NONE;
        }
        trails.findThousandths();
        if (within(what, 10, 30)) {
            return trails.apartBy(what - 10);
        }
        if (!within(what, 0, 1)) {
            return NONE;
        }
        int least = trails.leastLag();
        return what == 0 ? least : trails.apartBy(least);
    }

    public int together(int name, int year) {
        if (!names.has(name) || !land.wentBy(year)) {
            return NONE;
        }
        return trails.risenOfEnding(name, year);
    }

    public int took(int film, int name, int year) {
        if (!within(film, 0, land.filmCount - 1) || !names.has(name) || !land.wentBy(year)) {
            return NO_ANSWER;
        }
        return broughtBy(film, false, name, year);
    }

    public int sound(int name, int year) {
        if (!names.has(name) || !land.wentBy(year)) {
            return NO_ANSWER;
        }
        return broughtBy(NONE, true, name, year);
    }

    public int crossed(int name, int what) {
        if (!names.has(name) || !within(what, 0, 1)) {
            return NONE;
        }
        int year = trails.crossing(name);
        if (year == NONE || what == 0) {
            return year;
        }
        return trails.boysAgain(name, year) ? 1 : 0;
    }

    public int returned(int name, int gap, int what) {
        if (!names.has(name) || !within(gap, 1, 60) || !within(what, 0, 2)) {
            return NONE;
        }
        int year = trails.comesBack(name, gap);
        if (year == NONE || what == 0) {
            return year;
        }
        return what == 1 ? trails.emptyAhead(name, year) : trails.livingAt(name, year - 1);
    }

    public int room(int place, int year, int n, boolean alike) {
        if (!within(place, 0, PLACES - 1) || !land.wentBy(year) || !within(n, 2, 8)) {
            return NONE;
        }
        return trails.sharing(place, year, n, alike);
    }

    public int best(int place, int standing, int sex, int what) {
        if (!isRow(place, standing, sex) || !within(what, 0, 1) || land.clock == 0) {
            return NONE;
        }
        if (!weighAll(place, standing, sex)) {
            return NONE;
        }
        int best = NONE;
        int fewest = 0;
        for (int i = 0; i < names.count; i++) {
            if (judge.mays[i]) {
                int heard = trails.akinLastYear(place, i);
                boolean better = best == NONE || heard < fewest
                        || (heard == fewest && judge.worths[i] > judge.worths[best]);
                if (better) {
                    best = i;
                    fewest = heard;
                }
            }
        }
        return best == NONE || what == 0 ? best : fewest;
    }

    public int age(int name, int p, int what) {
        if (!names.has(name) || !within(p, 1, 100) || !within(what, 0, 2)) {
            return NO_ANSWER;
        }
        if (trails.livingAt(name, land.clock - 1) == 0) {
            return NO_ANSWER;
        }
        if (what == 2) {
            return trails.halfBorn(name);
        }
        int length = trails.shortestSpan(name, p);
        int first = trails.spanStart(name, p, length);
        return what == 0 ? first : first + length - 1;
    }

    public int guess(int name) {
        return names.has(name) ? trails.likeliestPlace(name) : NONE;
    }

    public int chance(int name, int year, int told) {
        if (!within(year, 1, land.clock - 1) || !within(told, 2, 1000000)) {
            return NONE;
        }
        if (!within(name, NONE, names.count - 1)) {
            return NONE;
        }
        if (book.groupTotal(OF_ALL, year, year) == 0 || book.groupTotal(OF_ALL, year - 1, year - 1) == 0) {
            return NONE;
        }
        if (name != NONE) {
            return beyondChance(name, year, told);
        }
        int beyond = 0;
        for (int i = 0; i < names.count; i++) {
            if (beyondChance(i, year, told) != 0) {
                beyond++;
            }
        }
        return beyond;
    }

    public int turnover(int year, int k) {
        if (!land.wentBy(year) || !within(k, 1, NAMES)) {
            return NONE;
        }
        return Integer.bitCount(trails.foremost(year, k) & ~trails.foremost(year - 1, k));
    }

    public int print(int year, int place, int sex, int name, int n) {
        if (press.count >= PRINTED || !isPrintable(year, place, sex, name) || !within(n, 0, 99)) {
            return NONE;
        }
        return press.add(year, Press.spot(place, sex, name), n, land.clock);
    }

    public int let(int taste, int known) {
        if (!within(taste, NONE, tasteCount - 1) || !within(known, 0, YEARS_GOING)) {
            return NONE;
        }
        int first = taste == NONE ? 0 : taste;
        int last = taste == NONE ? tasteCount - 1 : taste;
        runBy(first, last);
        return Integer.bitCount(press.agreeing(first, last, known));
    }

    public int span(int year, int place, int sex, int name, boolean high) {
        if (!isPrintable(year, place, sex, name)) {
            return NONE;
        }
        runBy(0, tasteCount - 1);
        int agreeing = press.agreeing(0, tasteCount - 1, land.clock);
        return press.bound(agreeing, year, Press.spot(place, sex, name), high);
    }

    public int parts(int year, int what) {
        if (!within(year, 0, LAST_YEAR) || !within(what, 0, 3)) {
            return NONE;
        }
        runBy(0, tasteCount - 1);
        int agreeing = press.agreeing(0, tasteCount - 1, land.clock);
        int widest = press.widestSpot(agreeing, year);
        if (widest == NONE) {
            return NONE;
        }
        switch (what) {
            case 0: return widest / (SEXES * NAMES);
            case 1: return widest / NAMES % SEXES;
            case 2: return widest % NAMES;
            default: return press.width(agreeing, year, widest);
        }
    }

    public int image() {
        kept.keep(land, book);
        kept.names = names.count;
        kept.tastes = tasteCount;
        kept.printed = press.count;
        return land.clock;
    }

    public int back() {
        kept.restore(land, book);
        names.count = kept.names;
        tasteCount = kept.tastes;
        press.count = kept.printed;
        press.forgetRuns();
        return land.clock;
    }

    public int about(int what) {
        switch (what) {
            case 0: return land.clock;
            case 1: return names.count;
            case 2: return land.listCount;
            case 3: return land.filmCount;
            case 4: return tasteCount;
            case 5: return press.count;
            case 6: return reader.length;
            case 7: return land.lifeYears;
            case 10: return land.heldNow[0];
            case 11: return land.heldNow[1];
            default: return within(what, 20, 19 + ROWS) ? land.cradlesNow[what - 20] : NONE;
        }
    }

    private static boolean within(int value, int least, int greatest) {
        return value >= least && value <= greatest;
    }

    private static boolean isOrAll(int told, int value) {
        return told == NONE || told == value;
    }

    private static boolean isRow(int place, int standing, int sex) {
        return within(place, 0, PLACES - 1) && within(standing, 0, STANDINGS - 1) && within(sex, 0, SEXES - 1);
    }

    private boolean isPrintable(int year, int place, int sex, int name) {
        return within(year, 0, LAST_YEAR) && isRow(place, 0, sex) && names.has(name);
    }

    /** Weighs every name for a cradle now; false if no taste holds or no year comes. */
    private boolean weighAll(int place, int standing, int sex) {
        int held = land.heldNow[standing];
        if (held == NONE || land.clock > LAST_YEAR) {
            return false;
        }
        judge.stand(book, land.clock, place, standing, sex);
        judge.taste = tastes[held];
        for (int i = 0; i < names.count; i++) {
            judge.weigh(i);
        }
        return true;
    }

    /** What was given less what it is in a run without a film (NONE: with all) or without sound. */
    private int broughtBy(int film, boolean sound, int name, int year) {
        judge.withoutFilm = film;
        judge.withoutSound = sound;
        run.beginFrom(book);
        for (int y = 0; y <= year; y++) {
            course.pass(run, y, NONE);
        }
        judge.withoutFilm = NONE;
        judge.withoutSound = false;
        return book.between(OF_ALL, name, year, year) - run.between(OF_ALL, name, year, year);
    }

    private int beyondChance(int name, int year, int told) {
        int children = book.groupTotal(OF_ALL, year, year);
        int came = trails.in(name, year);
        int was = trails.in(name, year - 1);
        int others = book.groupTotal(OF_ALL, year - 1, year - 1) - was;
        odds.setDraw(children, was, others);
        if (odds.isRare(came, children, told)) {
            return 1;
        }
        return odds.isRare(0, came, told) ? 2 : 0;
    }

    /** Makes the runs by tastes that are not at hand. */
    private void runBy(int first, int last) {
        for (int taste = first; taste <= last; taste++) {
            if (!press.hasRun(taste)) {
                run.beginFrom(book);
                for (int y = 0; y <= LAST_YEAR; y++) {
                    course.pass(run, y, taste);
                }
                press.keepRun(taste, run);
            }
        }
    }

    /** Names as letters, endings and sounds; what stands behind count is left over and unused. */
    static final class Names {
        // The sound of each letter a to z, told by the one letter that stands for all like it.
        private static final String SOUND_OF = "abgdibghijglmmobgrsdobosis";
        private static final String VOWELS = "aeiouy";

        int count;
        final long[] letters = new long[NAMES];
        final int[] lengths = new int[NAMES];
        final int[] sexes = new int[NAMES];
        final int[] toldIn = new int[NAMES];
        final long[] endings = new long[NAMES];
        final int[] sounds = new int[NAMES * LETTERS];
        final int[] soundCounts = new int[NAMES];

        /** How many letters a number holds; 0 if it is no name. */
        static int lengthOf(long number) {
            long rest = number;
            int length = 0;
            for (int i = 0; i < LETTERS && rest != 0; i++) {
                long letter = rest & 31;
                if (letter < 1 || letter > 26) {
                    return 0;
                }
                rest >>>= 5;
                length++;
            }
            return rest == 0 && length >= 2 ? length : 0;
        }

        boolean has(int name) {
            return name >= 0 && name < count;
        }

        boolean knows(long number) {
            for (int i = 0; i < count; i++) {
                if (letters[i] == number) {
                    return true;
                }
            }
            return false;
        }

        int add(long number, int length, int sexSet, int year) {
            if (count >= NAMES) {
                return NONE;
            }
            letters[count] = number;
            lengths[count] = length;
            sexes[count] = sexSet;
            toldIn[count] = year;
            endings[count] = endingOf(number, length);
            hear(count);
            count++;
            return count - 1;
        }

        private static char letterAt(long number, int place) {
            return (char) ('a' - 1 + (int) (number >>> (5 * place) & 31));
        }

        private static long endingOf(long number, int length) {
            for (int i = length - 1; i >= 0; i--) {
                if (VOWELS.indexOf(letterAt(number, i)) >= 0) {
                    return number >>> (5 * i);
                }
            }
            return number;
        }

        private void hear(int name) {
            int heard = 0;
            int latest = 0;
            for (int i = 0; i < lengths[name]; i++) {
                int letter = letterAt(letters[name], i) - 'a';
                if (letter >= 0 && letter < SOUND_OF.length()) {
                    int sound = SOUND_OF.charAt(letter);
                    if (sound != latest) {
                        sounds[name * LETTERS + heard] = sound;
                        heard++;
                        latest = sound;
                    }
                }
            }
            soundCounts[name] = heard;
        }

        boolean sameEnding(int one, int other) {
            return endings[one] == endings[other];
        }

        int lowestOfEnding(int name) {
            for (int i = 0; i < name; i++) {
                if (sameEnding(i, name)) {
                    return i;
                }
            }
            return name;
        }

        /** Whether what two names share at their fronts and their backs leaves one sound at most. */
        boolean akin(int one, int other) {
            int a = soundCounts[one];
            int b = soundCounts[other];
            int shorter = Math.min(a, b);
            int front = 0;
            while (front < shorter && sounds[one * LETTERS + front] == sounds[other * LETTERS + front]) {
                front++;
            }
            int rear = 0;
            while (rear < shorter - front
                    && sounds[one * LETTERS + a - 1 - rear] == sounds[other * LETTERS + b - 1 - rear]) {
                rear++;
            }
            return Math.max(a, b) - front - rear <= 1;
        }
    }

    /** What is told of the land and, of the years that went by, how it was told then. */
    static final class Land {
        int clock;
        int lifeYears = 60;
        final int[] told = new int[YEARS_TOLD * ROWS * NAMES];
        final int[] cradlesNow = new int[ROWS];
        final int[] cradlesThen = new int[YEARS_GOING * ROWS];
        final int[] heldNow = {NONE, NONE};
        final int[] heldThen = new int[YEARS_GOING * STANDINGS];
        final int[] unnamedThen = new int[YEARS_GOING];
        int listCount;
        final int[] listFrom = new int[LISTS];
        final int[] listNames = new int[LISTS];
        int filmCount;
        final int[] filmName = new int[FILMS];
        final int[] filmYear = new int[FILMS];
        final int[] filmPoints = new int[FILMS];

        static int row(int place, int standing, int sex) {
            return (place * STANDINGS + standing) * SEXES + sex;
        }

        static int placeOf(int row) {
            return row / (STANDINGS * SEXES);
        }

        static int standingOf(int row) {
            return row / SEXES % STANDINGS;
        }

        static int sexOf(int row) {
            return row % SEXES;
        }

        static int toldCell(int year, int row, int name) {
            return ((year - FIRST_YEAR) * ROWS + row) * NAMES + name;
        }

        boolean wentBy(int year) {
            return year >= 0 && year < clock;
        }

        int addList(int from, int set) {
            if (listCount < LISTS) {
                listFrom[listCount] = from;
                listNames[listCount] = set;
                listCount++;
            }
            return listCount;
        }

        int addFilm(int name, int year, int points) {
            if (filmCount >= FILMS) {
                return NONE;
            }
            filmName[filmCount] = name;
            filmYear[filmCount] = year;
            filmPoints[filmCount] = points;
            filmCount++;
            return filmCount - 1;
        }

        /** The names, as bits, that the list of a year leaves. */
        int listedIn(int year) {
            for (int i = listCount - 1; i >= 0; i--) {
                if (listFrom[i] <= year) {
                    return listNames[i] == 0 ? ALL_NAMES : listNames[i];
                }
            }
            return ALL_NAMES;
        }

        int filmOf(int name, int year, int without) {
            int points = 0;
            for (int i = 0; i < filmCount; i++) {
                int since = year - filmYear[i];
                // Ten years on nothing is left of 999 points, and a shift by 32 or more would wrap.
                if (i != without && filmName[i] == name && since >= 0 && since < 10) {
                    points += filmPoints[i] >> since;
                }
            }
            return points;
        }

        int cradlesIn(int year, int row) {
            return wentBy(year) ? cradlesThen[year * ROWS + row] : cradlesNow[row];
        }

        int heldIn(int year, int standing) {
            return wentBy(year) ? heldThen[year * STANDINGS + standing] : heldNow[standing];
        }

        /** Writes down how the clock's year was, for runs, and moves the clock on. */
        void closeYear(int unnamed) {
            if (clock > LAST_YEAR) {
                return;
            }
            System.arraycopy(cradlesNow, 0, cradlesThen, clock * ROWS, ROWS);
            System.arraycopy(heldNow, 0, heldThen, clock * STANDINGS, STANDINGS);
            unnamedThen[clock] = unnamed;
            clock++;
        }
    }

    /**
     * How many got each name in the years from 0 on, and sums from the first year on, so that any span
     * of years is one difference. The sums hold up to the open year, in which names are being given.
     */
    static final class Book {
        private static final int NEVER = -1000;

        final long[] rows = new long[YEARS_GOING * ROWS];
        final int[] sums = new int[(YEARS_TOLD + YEARS_GOING + 1) * SUMS];
        final int[] latest = new int[NAMES];
        int openYear;

        Book() {
            Arrays.fill(latest, NEVER);
        }

        void open(int year) {
            if (year < 0 || year > LAST_YEAR) {
                return;
            }
            for (int i = 0; i < ROWS; i++) {
                rows[year * ROWS + i] = 0;
            }
            int ahead = (year - FIRST_YEAR) * SUMS;
            System.arraycopy(sums, ahead, sums, ahead + SUMS, SUMS);
            openYear = year;
        }

        /** One more of a name in the open year. */
        void give(int place, int standing, int sex, int name) {
            rows[openYear * ROWS + Land.row(place, standing, sex)] += 1L << (NAME_BITS * name);
            addSums(openYear, place, standing, sex, name, 1);
        }

        void addSums(int year, int place, int standing, int sex, int name, int n) {
            for (int y = year; y <= openYear; y++) {
                int base = (y - FIRST_YEAR + 1) * SUMS + name;
                sums[base + (OF_PLACE + place) * NAMES] += n;
                sums[base + (OF_STANDING + standing) * NAMES] += n;
                sums[base + OF_GIRLS * NAMES] += sex == 0 ? n : 0;
                sums[base + OF_ALL * NAMES] += n;
            }
            latest[name] = Math.max(latest[name], year);
        }

        int inRow(int year, int row, int name) {
            return (int) (rows[year * ROWS + row] >>> (NAME_BITS * name)) & NAME_MASK;
        }

        /** Given of a name, in one place or standing, to girls or all, in the years from .. to, both with them. */
        int between(int group, int name, int from, int to) {
            int first = from < FIRST_YEAR ? FIRST_YEAR : from;
            int last = to > openYear ? openYear : to;
            if (last < first) {
                return 0;
            }
            int column = group * NAMES + name;
            return sums[(last - FIRST_YEAR + 1) * SUMS + column] - sums[(first - FIRST_YEAR) * SUMS + column];
        }

        int groupTotal(int group, int from, int to) {
            int all = 0;
            for (int i = 0; i < NAMES; i++) {
                all += between(group, i, from, to);
            }
            return all;
        }

        int since(int name, int year) {
            return Math.min(year - latest[name], 99);
        }

        /** Takes over what was told ahead of year 0, with nothing behind it. */
        void beginFrom(Book other) {
            System.arraycopy(other.sums, 0, sums, 0, (YEARS_TOLD + 1) * SUMS);
            reopen(0);
        }

        /** Opens a year behind those whose sums hold. */
        void reopen(int year) {
            openYear = LAST_YEAR;
            for (int i = 0; i < NAMES; i++) {
                latest[i] = NEVER;
                for (int y = year - 1; y >= FIRST_YEAR && latest[i] == NEVER; y--) {
                    if (between(OF_ALL, i, y, y) > 0) {
                        latest[i] = y;
                    }
                }
            }
            open(year);
        }
    }

    /** A taste that was read: its clauses as steps, each behind what it works on. */
    static final class Taste {
        final int[] code = new int[Reader.TAPE];
        int length;
        int nearYears;
        int pastYears;

        void clear() {
            length = 0;
            nearYears = 5;
            pastYears = 50;
        }

        void put(int step) {
            if (length < code.length) {
                code[length] = step;
                length++;
            }
        }
    }

    /** The tape, and the reading of it; with a fault the token is HALT, so that nothing goes on. */
    static final class Reader {
        static final int TAPE = 300;
        private static final int FED = 20;
        private static final int CLAUSES = 12;
        private static final int OPEN_AT_ONCE = 8;
        private static final int WORD_PLACES = 5;
        // The tokens of letters in the order of their numbers, each in five places.
        private static final String WORD_LIST =
            "near far  up   same girlsboys old  all  gone rise soundfilm long year worthbar  past or   and  not  min  max  ";
        // The tokens of one sign from EQUAL on, in the order of their numbers.
        private static final String SIGNS = "=#+-*/(),;";

        final int[] bytes = new int[TAPE];
        int length;
        int fault = NONE;
        int place = NONE;
        private final int[] kinds = new int[TAPE + 1];
        private final int[] starts = new int[TAPE + 1];
        private final int[] numbers = new int[TAPE + 1];
        private int at;
        private int token;
        private Taste made;
        private int toldOnce;

        Reader(Taste first) {
            made = first;
        }

        boolean hasRoom() {
            return length + FED <= TAPE;
        }

        void put(int four) {
            for (int shift = 24; shift >= 0 && length < TAPE; shift -= 8) {
                bytes[length] = four >>> shift & 255;
                length++;
            }
        }

        /** Reads the tape and empties it; false if it has a fault. */
        boolean read(Taste taste) {
            made = taste;
            made.clear();
            fault = 0;
            place = NONE;
            toldOnce = 0;
            cut();
            at = 0;
            token = kinds[0];
            for (int i = 0; i <= CLAUSES && token != END && token != HALT; i++) {
                clause(i);
            }
            length = 0;
            return fault == 0;
        }

        /** Cuts the text into tokens, the end behind them. */
        private void cut() {
            int count = 0;
            int from = 0;
            for (int i = 0; i < TAPE && from < length; i++) {
                if (bytes[from] == ' ' || bytes[from] == 10) {
                    from++;
                } else {
                    starts[count] = from;
                    from = cutOne(count, from);
                    count++;
                }
            }
            kinds[count] = END;
            starts[count] = length;
        }

        /** Cuts the token that begins at a byte, and tells where the next byte is. */
        private int cutOne(int which, int from) {
            int sign = bytes[from];
            int to = from + 1;
            if (isLetter(sign)) {
                while (to < length && isLetter(bytes[to])) {
                    to++;
                }
                kinds[which] = wordOf(from, to);
            } else if (isDigit(sign)) {
                int value = sign - '0';
                while (to < length && isDigit(bytes[to])) {
                    // Above the greatest number all are alike, but none may wrap around.
                    value = Math.min(value * 10 + bytes[to] - '0', 10000);
                    to++;
                }
                kinds[which] = NUMBER;
                numbers[which] = value;
            } else if (sign == '<' || sign == '>') {
                boolean wide = to < length && bytes[to] == '=';
                kinds[which] = (sign == '<' ? BELOW : ABOVE) + (wide ? 1 : 0);
                to += wide ? 1 : 0;
            } else {
                int found = SIGNS.indexOf((char) sign);
                kinds[which] = found < 0 ? NO_TOKEN : EQUAL + found;
            }
            return to;
        }

        private static boolean isLetter(int sign) {
            return (sign >= 'a' && sign <= 'z') || (sign >= 'A' && sign <= 'Z');
        }

        private static boolean isDigit(int sign) {
            return sign >= '0' && sign <= '9';
        }

        private int wordOf(int from, int to) {
            if (to - from > WORD_PLACES) {
                return NO_TOKEN;
            }
            for (int i = 0; i < LETTER_TOKENS; i++) {
                int same = 0;
                for (int j = 0; j < WORD_PLACES; j++) {
                    int sign = from + j < to ? bytes[from + j] : ' ';
                    same += WORD_LIST.charAt(i * WORD_PLACES + j) == sign ? 1 : 0;
                }
                if (same == WORD_PLACES) {
                    return i;
                }
            }
            return NO_TOKEN;
        }

        private void fail(int kind) {
            if (token != HALT) {
                fault = kind;
                place = starts[at];
                token = HALT;
            }
        }

        private void advance() {
            if (token != HALT && token != END) {
                at++;
                token = kinds[at];
            }
        }

        private void expect(int wanted) {
            if (token == wanted) {
                advance();
            } else {
                fail(1);
            }
        }

        private void clause(int ahead) {
            int kind = token;
            if (kind != WORTH && kind != BAR && kind != NEAR && kind != PAST) {
                fail(1);
            } else if ((toldOnce >> kind & 1) == 1) {
                fail(4);
            } else if (ahead >= CLAUSES) {
                fail(5);
            }
            toldOnce |= kind == BAR || token == HALT ? 0 : 1 << kind;
            advance();
            if (kind == WORTH) {
                sum(0);
                made.put(WORTH);
            } else if (kind == BAR) {
                either();
                made.put(BAR);
            } else {
                window(kind);
            }
            expect(SEMICOLON);
        }

        private void window(int kind) {
            int many = numbers[at];
            if (token != NUMBER) {
                fail(1);
            } else if (many < 1 || many > (kind == NEAR ? 20 : 60)) {
                fail(2);
            } else if (kind == NEAR) {
                made.nearYears = many;
            } else {
                made.pastYears = many;
            }
            advance();
        }

        private void either() {
            boolean or = false;
            for (int i = 0; i < TAPE && (i == 0 || token == OR); i++) {
                if (or) {
                    advance();
                }
                ask();
                for (int j = 0; j < TAPE && token == AND; j++) {
                    advance();
                    ask();
                    made.put(AND);
                }
                if (or) {
                    made.put(OR);
                }
                or = true;
            }
        }

        private void ask() {
            int nots = 0;
            for (int i = 0; i <= OPEN_AT_ONCE && token == NOT; i++) {
                if (nots >= OPEN_AT_ONCE) {
                    fail(3);
                }
                advance();
                nots++;
            }
            sum(nots);
            int sign = token;
            if (sign < BELOW || sign > UNLIKE) {
                fail(1);
            }
            advance();
            sum(nots);
            made.put(sign);
            for (int i = 0; i < nots; i++) {
                made.put(NOT);
            }
        }

        private void sum(int open) {
            product(open);
            for (int i = 0; i < TAPE && (token == PLUS || token == MINUS); i++) {
                int sign = token;
                advance();
                product(open);
                made.put(sign);
            }
        }

        private void product(int open) {
            one(open);
            for (int i = 0; i < TAPE && (token == TIMES || token == OVER); i++) {
                int sign = token;
                advance();
                one(open);
                made.put(sign);
            }
        }

        private void one(int open) {
            int kind = token;
            if (kind == NUMBER) {
                if (numbers[at] > 9999) {
                    fail(2);
                }
                made.put(NUMBERS + numbers[at]);
                advance();
            } else if (kind >= NEAR && kind < WORDS) {
                made.put(kind);
                advance();
            } else if (kind == MINUS || kind == OPEN || kind == MIN || kind == MAX) {
                around(kind, open);
            } else {
                fail(1);
            }
        }

        /** What is open around another: a minus, brackets, those of min and max; at most so many at once. */
        private void around(int kind, int open) {
            if (kind == MIN || kind == MAX) {
                advance();
                if (token != OPEN) {
                    fail(1);
                }
            }
            if (open >= OPEN_AT_ONCE) {
                fail(3);
            }
            if (token == HALT) {
                return;
            }
            advance();
            if (kind == MINUS) {
                one(open + 1);
                made.put(NEGATE);
                return;
            }
            sum(open + 1);
            if (kind != OPEN) {
                expect(COMMA);
                sum(open + 1);
                made.put(kind);
            }
            expect(CLOSE);
        }
    }

    /** Weighs names for one cradle of a place, standing and sex in the open year of a book. */
    static final class Judge {
        private static final int GREATEST = 1000000000;
        // At most eight are open around one another, with three values waiting in each.
        private static final int STACK = 64;

        private final Names names;
        private final Land land;
        private final int[] stack = new int[STACK];
        final int[] worths = new int[NAMES];
        final boolean[] mays = new boolean[NAMES];
        Taste taste;
        int withoutFilm = NONE;
        boolean withoutSound;
        private Book book;
        private int year;
        private int place;
        private int standing;
        private int sex;
        private int listed;

        Judge(Names names, Land land, Book book, Taste taste) {
            this.names = names;
            this.land = land;
            this.book = book;
            this.taste = taste;
        }

        void stand(Book book, int year, int place, int standing, int sex) {
            this.book = book;
            this.year = year;
            this.place = place;
            this.standing = standing;
            this.sex = sex;
            listed = land.listedIn(year);
        }

        /** Whether a name is there, for the sex and on the list, bars aside. */
        boolean fits(int name) {
            return names.toldIn[name] <= year && (names.sexes[name] >> sex & 1) == 1 && (listed >> name & 1) == 1;
        }

        /** The name that may be given and has the greatest worth, the lowest of like ones; or NONE. */
        int pick() {
            int pick = NONE;
            for (int i = 0; i < names.count; i++) {
                if (mays[i] && (pick == NONE || worths[i] > worths[pick])) {
                    pick = i;
                }
            }
            return pick;
        }

        void give(int name) {
            book.give(place, standing, sex, name);
        }

        /** Finds the worth of a name and whether it may be given. */
        void weigh(int name) {
            int top = 0;
            int worth = 0;
            boolean barred = false;
            for (int i = 0; i < taste.length; i++) {
                int step = taste.code[i];
                if (step >= NUMBERS || step < WORDS) {
                    if (top < STACK) {
                        stack[top] = step >= NUMBERS ? step - NUMBERS : heard(step, name);
                        top++;
                    }
                } else if (top >= 1 && (step == NEGATE || step == NOT)) {
                    stack[top - 1] = step == NEGATE ? -stack[top - 1] : 1 - stack[top - 1];
                } else if (top >= 1 && step == WORTH) {
                    top--;
                    worth = stack[top];
                } else if (top >= 1 && step == BAR) {
                    top--;
                    barred = barred || stack[top] != 0;
                } else if (top >= 2) {
                    top--;
                    stack[top - 1] = join(step, stack[top - 1], stack[top]);
                }
            }
            worths[name] = worth;
            mays[name] = !barred && fits(name);
        }

        private static int join(int step, int left, int right) {
            switch (step) {
                case PLUS: return bounded((long) left + right);
                case MINUS: return bounded((long) left - right);
                case TIMES: return bounded((long) left * right);
                case OVER: return right == 0 ? 0 : left / right;
                case MIN: return Math.min(left, right);
                case MAX: return Math.max(left, right);
                case BELOW: return left < right ? 1 : 0;
                case AT_MOST: return left <= right ? 1 : 0;
                case ABOVE: return left > right ? 1 : 0;
                case AT_LEAST: return left >= right ? 1 : 0;
                case EQUAL: return left == right ? 1 : 0;
                case UNLIKE: return left != right ? 1 : 0;
                case AND: return left & right;
                case OR: return left | right;
                default: return 0;
            }
        }

        private static int bounded(long value) {
            if (value > GREATEST) {
                return GREATEST;
            }
            return value < -GREATEST ? -GREATEST : (int) value;
        }

        private int heard(int word, int name) {
            int recent = year - taste.nearYears + 1;
            int oldest = year - land.lifeYears + 1;
            switch (word) {
                case NEAR: return book.between(OF_PLACE + place, name, recent, year);
                case FAR: return book.between(OF_ALL, name, recent, year)
                        - book.between(OF_PLACE + place, name, recent, year);
                case UP: return standing == 0 ? 0 : book.between(OF_STANDING, name, recent, year);
                case SAME: return book.between(OF_STANDING + standing, name, recent, year);
                case GIRLS: return book.between(OF_GIRLS, name, oldest, year);
                case BOYS: return book.between(OF_ALL, name, oldest, year)
                        - book.between(OF_GIRLS, name, oldest, year);
                case OLD: return book.between(OF_ALL, name, oldest, year - taste.pastYears);
                case ALL: return book.between(OF_ALL, name, oldest, year);
                case GONE: return book.since(name, year);
                case RISE: return book.between(OF_ALL, name, year - 1, year - 1)
                        - book.between(OF_ALL, name, year - 2, year - 2);
                case SOUND: return withoutSound ? 0 : heardOfEnding(name);
                case FILM: return land.filmOf(name, year, withoutFilm);
                case LONG: return names.lengths[name];
                case YEAR: return year;
                default: return 0;
            }
        }

        private int heardOfEnding(int name) {
            int heard = 0;
            for (int i = 0; i < names.count; i++) {
                if (i != name && names.sameEnding(i, name)) {
                    heard += book.between(OF_ALL, i, year - 1, year - 1);
                }
            }
            return heard;
        }
    }

    /** Lets years go by in a book, the land's own or that of a run. */
    static final class Course {
        private final Names names;
        private final Land land;
        private final Taste[] tastes;
        private final Judge judge;

        Course(Names names, Land land, Taste[] tastes, Judge judge) {
            this.names = names;
            this.land = land;
            this.tastes = tastes;
            this.judge = judge;
        }

        /** Names the cradles of a year, by one taste or (NONE) by those that held; how many stay unnamed. */
        int pass(Book book, int year, int only) {
            int unnamed = 0;
            book.open(year);
            for (int row = 0; row < ROWS; row++) {
                int many = land.cradlesIn(year, row);
                int standing = Land.standingOf(row);
                int held = only == NONE ? land.heldIn(year, standing) : only;
                if (held == NONE) {
                    unnamed += many;
                } else if (many > 0) {
                    judge.stand(book, year, Land.placeOf(row), standing, Land.sexOf(row));
                    judge.taste = tastes[held];
                    unnamed += many - fill(many);
                }
            }
            return unnamed;
        }

        /**
         * Names cradles side by side; how many got a name. What one gets changes what is heard of that
         * name alone, so only it is weighed again.
         */
        private int fill(int many) {
            for (int i = 0; i < names.count; i++) {
                judge.mays[i] = false;
                if (judge.fits(i)) {
                    judge.weigh(i);
                }
            }
            for (int filled = 0; filled < many; filled++) {
                int pick = judge.pick();
                if (pick == NONE) {
                    return filled;
                }
                judge.give(pick);
                judge.weigh(pick);
            }
            return many;
        }
    }

    /** What the years that went by tell of names, places and standings. */
    static final class Trails {
        private static final int LONGEST_LAG = 20;

        private final Names names;
        private final Land land;
        private final Book book;
        private final int[] rises = new int[NAMES];
        private final int[] falls = new int[NAMES];
        private final int[] upper = new int[YEARS_GOING * NAMES];
        private final int[] lower = new int[YEARS_GOING * NAMES];
        private final int[] who = new int[NAMES];
        private final int[] counts = new int[NAMES];
        private final int[] kin = new int[NAMES];
        private int kinds;

        Trails(Names names, Land land, Book book) {
            this.names = names;
            this.land = land;
            this.book = book;
        }

        int in(int name, int year) {
            return book.between(OF_ALL, name, year, year);
        }

        int livingAt(int name, int year) {
            return book.between(OF_ALL, name, year - land.lifeYears + 1, year);
        }

        int peak(int name) {
            int peak = NONE;
            int most = 0;
            for (int y = 0; y < land.clock; y++) {
                int n = in(name, y);
                if (n > most) {
                    most = n;
                    peak = y;
                }
            }
            return peak;
        }

        /** How many years ahead of the peak (step -1) or behind it (step 1) have half of it or more. */
        int slope(int name, int peak, int step) {
            int most = in(name, peak);
            for (int many = 0; many < YEARS_GOING; many++) {
                int next = peak + (many + 1) * step;
                if (!land.wentBy(next) || 2 * in(name, next) < most) {
                    return many;
                }
            }
            return YEARS_GOING;
        }

        /** Pairs in which one name has more of both slopes, or (both false) more of one, less of the other. */
        int pairs(boolean both) {
            int found = 0;
            for (int i = 0; i < names.count; i++) {
                int peak = peak(i);
                rises[i] = peak == NONE ? NONE : slope(i, peak, -1);
                falls[i] = peak == NONE ? NONE : slope(i, peak, 1);
                for (int j = 0; j < i && peak != NONE; j++) {
                    int rise = Integer.compare(rises[i], rises[j]);
                    int fall = Integer.compare(falls[i], falls[j]);
                    if (rises[j] != NONE && rise * fall == (both ? 1 : -1)) {
                        found++;
                    }
                }
            }
            return found;
        }

        void findThousandths() {
            for (int y = 0; y < land.clock; y++) {
                int above = book.groupTotal(OF_STANDING, y, y);
                int below = book.groupTotal(OF_STANDING + 1, y, y);
                for (int i = 0; i < NAMES; i++) {
                    int at = y * NAMES + i;
                    upper[at] = above == 0 ? 0 : book.between(OF_STANDING, i, y, y) * 1000 / above;
                    lower[at] = below == 0 ? 0 : book.between(OF_STANDING + 1, i, y, y) * 1000 / below;
                }
            }
        }

        /** How far the standings are apart by a lag, by the thousandths that were found. */
        int apartBy(int lag) {
            int many = land.clock - lag;
            if (many <= 0 || lag < 0) {
                return NONE;
            }
            int apart = 0;
            for (int i = 0; i < many * NAMES; i++) {
                apart += Math.abs(upper[i] - lower[lag * NAMES + i]);
            }
            return apart / many;
        }

        int leastLag() {
            int least = NONE;
            int nearest = 0;
            for (int lag = 0; lag <= LONGEST_LAG && lag < land.clock; lag++) {
                int apart = apartBy(lag);
                if (least == NONE || apart < nearest) {
                    least = lag;
                    nearest = apart;
                }
            }
            return least;
        }

        int risenOfEnding(int name, int year) {
            int risen = 0;
            for (int i = 0; i < names.count; i++) {
                if (names.sameEnding(i, name) && in(i, year) > in(i, year - 1)) {
                    risen++;
                }
            }
            return risen;
        }

        /** How many more girls than boys got a name in a year. */
        private int girlsMore(int name, int year) {
            return 2 * book.between(OF_GIRLS, name, year, year) - in(name, year);
        }

        int crossing(int name) {
            boolean boysAhead = false;
            for (int y = FIRST_YEAR; y < land.clock; y++) {
                int more = girlsMore(name, y);
                if (y >= 0 && boysAhead && more >= 0 && in(name, y) > 0) {
                    return y;
                }
                boysAhead = boysAhead || more < 0;
            }
            return NONE;
        }

        boolean boysAgain(int name, int year) {
            for (int y = year + 1; y < land.clock; y++) {
                if (girlsMore(name, y) < 0) {
                    return true;
                }
            }
            return false;
        }

        int emptyAhead(int name, int year) {
            int empty = 0;
            for (int y = year - 1; y >= FIRST_YEAR && in(name, y) == 0; y--) {
                empty++;
            }
            return empty;
        }

        int comesBack(int name, int gap) {
            for (int y = 0; y < land.clock; y++) {
                if (in(name, y) > 0) {
                    int empty = emptyAhead(name, y);
                    boolean wasAhead = y - empty > FIRST_YEAR;
                    if (empty >= gap && wasAhead) {
                        return y;
                    }
                }
            }
            return NONE;
        }

        /** Millionths of the classes of n in which two share a name (or have alike ones). */
        int sharing(int place, int year, int n, boolean alike) {
            int children = 0;
            kinds = 0;
            for (int i = 0; i < names.count; i++) {
                int many = book.between(OF_PLACE + place, i, year, year);
                if (many > 0) {
                    who[kinds] = i;
                    counts[kinds] = many;
                    children += many;
                    kinds++;
                }
            }
            if (children < n) {
                return NONE;
            }
            for (int i = 0; i < kinds; i++) {
                kin[i] = alike ? kinOf(i) : 0;
            }
            long classes = 1;
            for (int i = 0; i < n; i++) {
                classes = classes * (children - i) / (i + 1);
            }
            return classes <= 0 ? NONE : (int) ((classes - unlike(0, n, 0)) * 1000000 / classes);
        }

        private int kinOf(int kind) {
            int found = 0;
            for (int i = 0; i < kinds; i++) {
                if (names.akin(who[kind], who[i])) {
                    found |= 1 << i;
                }
            }
            return found;
        }

        /** How many choices of so many children have no two that share a name or are kin. */
        private long unlike(int from, int left, int barred) {
            if (left <= 0) {
                return 1;
            }
            long ways = 0;
            for (int i = from; i <= kinds - left; i++) {
                if ((barred >> i & 1) == 0) {
                    ways += counts[i] * unlike(i + 1, left - 1, barred | kin[i]);
                }
            }
            return ways;
        }

        int akinLastYear(int place, int name) {
            int year = land.clock - 1;
            int heard = 0;
            for (int i = 0; i < names.count; i++) {
                if (names.akin(name, i)) {
                    heard += book.between(OF_PLACE + place, i, year, year);
                }
            }
            return heard;
        }

        private int firstLiving() {
            return Math.max(land.clock - land.lifeYears, FIRST_YEAR);
        }

        int halfBorn(int name) {
            int first = firstLiving();
            int last = land.clock - 1;
            int all = book.between(OF_ALL, name, first, last);
            for (int y = first; y < last; y++) {
                if (2 * book.between(OF_ALL, name, first, y) >= all) {
                    return y;
                }
            }
            return last;
        }

        /** How long the shortest span of years of birth is that has p of a hundred of the living. */
        int shortestSpan(int name, int p) {
            int longest = land.clock - firstLiving();
            for (int length = 1; length < longest; length++) {
                if (spanStart(name, p, length) != NO_ANSWER) {
                    return length;
                }
            }
            return longest;
        }

        /** The first year of the earliest such span of a length; NO_ANSWER without. */
        int spanStart(int name, int p, int length) {
            int first = firstLiving();
            long all = book.between(OF_ALL, name, first, land.clock - 1);
            for (int y = first; y + length <= land.clock; y++) {
                if (book.between(OF_ALL, name, y, y + length - 1) * 100L >= p * all) {
                    return y;
                }
            }
            return NO_ANSWER;
        }

        int likeliestPlace(int name) {
            int first = firstLiving();
            int last = land.clock - 1;
            int likeliest = NONE;
            long part = 0;
            long whole = 1;
            for (int p = 0; p < PLACES; p++) {
                long here = book.between(OF_PLACE + p, name, first, last);
                long all = book.groupTotal(OF_PLACE + p, first, last);
                if (here * whole > part * all) {
                    likeliest = p;
                    part = here;
                    whole = all;
                }
            }
            return likeliest;
        }

        /** The k names given most in a year, as bits; none that was not given. */
        int foremost(int year, int k) {
            int found = 0;
            for (int i = 0; i < k; i++) {
                int next = NONE;
                int most = 0;
                for (int j = 0; j < names.count; j++) {
                    int n = in(j, year);
                    if ((found >> j & 1) == 0 && n > most) {
                        next = j;
                        most = n;
                    }
                }
                if (next == NONE) {
                    return found;
                }
                found |= 1 << next;
            }
            return found;
        }
    }

    /** Exact odds, of children that each draw a name; whole numbers of 24 digits of 24 bits, the lowest first. */
    static final class Odds {
        private static final int DIGITS = 24;
        private static final int BITS = 24;
        private static final int MASK = (1 << BITS) - 1;

        private final int[] term = new int[DIGITS];
        private final int[] sum = new int[DIGITS];
        private final int[] whole = new int[DIGITS];
        private int children;
        private int with;
        private int without;

        /** How many draw, from so many that have the name and so many that have another. */
        void setDraw(int children, int with, int without) {
            this.children = children;
            this.with = with;
            this.without = without;
        }

        /** Whether the odds that from .. to of the children draw the name are 1 in told or less. */
        boolean isRare(int from, int to, int told) {
            Arrays.fill(sum, 0);
            if (without == 0) {
                power(term, with);
                if (from <= children && children <= to) {
                    addTerm();
                }
            } else {
                power(term, without);
                for (int j = 0; j <= to && j <= children; j++) {
                    if (j >= from) {
                        addTerm();
                    }
                    // The next term is whole, so this division leaves nothing.
                    times(term, (children - j) * with);
                    over(term, (j + 1) * without);
                }
            }
            times(sum, told);
            power(whole, with + without);
            return sumIsAtMostWhole();
        }

        private void power(int[] number, int base) {
            Arrays.fill(number, 0);
            number[0] = 1;
            for (int i = 0; i < children; i++) {
                times(number, base);
            }
        }

        private static void times(int[] number, int factor) {
            long carry = 0;
            for (int i = 0; i < DIGITS; i++) {
                carry += (long) number[i] * factor;
                number[i] = (int) (carry & MASK);
                carry >>= BITS;
            }
        }

        private static void over(int[] number, int divisor) {
            if (divisor == 0) {
                return;
            }
            long rest = 0;
            for (int i = DIGITS - 1; i >= 0; i--) {
                rest = (rest << BITS) + number[i];
                number[i] = (int) (rest / divisor);
                rest %= divisor;
            }
        }

        private void addTerm() {
            int carry = 0;
            for (int i = 0; i < DIGITS; i++) {
                carry += sum[i] + term[i];
                sum[i] = carry & MASK;
                carry >>= BITS;
            }
        }

        private boolean sumIsAtMostWhole() {
            for (int i = DIGITS - 1; i >= 0; i--) {
                if (sum[i] != whole[i]) {
                    return sum[i] < whole[i];
                }
            }
            return true;
        }
    }

    /** The printed rows, and what a run by each taste brings, kept until something told changes it. */
    static final class Press {
        // Places and sexes of one year, both standings of each in one row.
        private static final int RUN_ROWS = 6;
        private static final int SPOTS = 96;

        int count;
        private final int[] ofYear = new int[PRINTED];
        private final int[] ofSpot = new int[PRINTED];
        private final int[] numbers = new int[PRINTED];
        private final int[] toldAt = new int[PRINTED];
        private final long[] runs = new long[TASTES * YEARS_GOING * RUN_ROWS];
        private int ran;

        /** Place, sex and name as one number, in their order. */
        static int spot(int place, int sex, int name) {
            return (place * SEXES + sex) * NAMES + name;
        }

        int add(int year, int spot, int n, int clock) {
            if (count < PRINTED) {
                ofYear[count] = year;
                ofSpot[count] = spot;
                numbers[count] = n;
                toldAt[count] = clock;
                count++;
            }
            return count;
        }

        void forgetRuns() {
            ran = 0;
        }

        boolean hasRun(int taste) {
            return (ran >> taste & 1) == 1;
        }

        void keepRun(int taste, Book run) {
            for (int y = 0; y < YEARS_GOING; y++) {
                for (int i = 0; i < RUN_ROWS; i++) {
                    int place = i / SEXES;
                    int sex = i % SEXES;
                    runs[(taste * YEARS_GOING + y) * RUN_ROWS + i] =
                            run.rows[y * ROWS + Land.row(place, 0, sex)] + run.rows[y * ROWS + Land.row(place, 1, sex)];
                }
            }
            ran |= 1 << taste;
        }

        private int brought(int taste, int year, int spot) {
            long row = runs[(taste * YEARS_GOING + year) * RUN_ROWS + spot / NAMES];
            return (int) (row >>> (NAME_BITS * (spot % NAMES))) & NAME_MASK;
        }

        /** The tastes, as bits, by whose runs all that was printed, told at a year or ahead, is so. */
        int agreeing(int first, int last, int known) {
            int found = 0;
            for (int taste = first; taste <= last; taste++) {
                boolean agrees = true;
                for (int i = 0; i < count && agrees; i++) {
                    agrees = toldAt[i] > known || brought(taste, ofYear[i], ofSpot[i]) == numbers[i];
                }
                found |= agrees ? 1 << taste : 0;
            }
            return found;
        }

        /** The least or the greatest by some tastes; NONE without any. */
        int bound(int some, int year, int spot, boolean high) {
            int bound = NONE;
            for (int taste = 0; taste < TASTES; taste++) {
                if ((some >> taste & 1) == 1) {
                    int n = brought(taste, year, spot);
                    if (bound == NONE || (high ? n > bound : n < bound)) {
                        bound = n;
                    }
                }
            }
            return bound;
        }

        int width(int some, int year, int spot) {
            return bound(some, year, spot, true) - bound(some, year, spot, false);
        }

        int widestSpot(int some, int year) {
            int widest = NONE;
            int most = 0;
            for (int i = 0; i < SPOTS; i++) {
                int width = width(some, year, i);
                if (width > most) {
                    widest = i;
                    most = width;
                }
            }
            return widest;
        }
    }

    /**
     * An image of all but the tape and the fault. Names, tastes, lists, films, printed rows and years only
     * ever come behind one another, so their counts bring them back; what is told ahead of year 0 changes
     * in place and is copied, with its sums.
     */
    static final class Image {
        int names;
        int tastes;
        int printed;
        private int clock;
        private int lifeYears;
        private int lists;
        private int films;
        private final int[] cradles = new int[ROWS];
        private final int[] held = new int[STANDINGS];
        private final int[] told = new int[YEARS_TOLD * ROWS * NAMES];
        private final int[] toldSums = new int[(YEARS_TOLD + 1) * SUMS];

        void keep(Land land, Book book) {
            clock = land.clock;
            lifeYears = land.lifeYears;
            lists = land.listCount;
            films = land.filmCount;
            System.arraycopy(land.cradlesNow, 0, cradles, 0, ROWS);
            System.arraycopy(land.heldNow, 0, held, 0, STANDINGS);
            System.arraycopy(land.told, 0, told, 0, told.length);
            System.arraycopy(book.sums, 0, toldSums, 0, toldSums.length);
        }

        void restore(Land land, Book book) {
            land.clock = clock;
            land.lifeYears = lifeYears;
            land.listCount = lists;
            land.filmCount = films;
            System.arraycopy(cradles, 0, land.cradlesNow, 0, ROWS);
            System.arraycopy(held, 0, land.heldNow, 0, STANDINGS);
            System.arraycopy(told, 0, land.told, 0, told.length);
            System.arraycopy(toldSums, 0, book.sums, 0, toldSums.length);
            book.reopen(clock);
        }
    }
}
