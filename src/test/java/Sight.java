/** All that can be seen of an object by asking, as one text: two that were told the same look the same. */
final class Sight {
    private final CradleNames x;
    private final StringBuilder seen = new StringBuilder();

    private Sight(CradleNames x) {
        this.x = x;
    }

    static String of(CradleNames x) {
        Sight sight = new Sight(x);
        sight.told();
        sight.rows();
        sight.trails();
        sight.now();
        sight.printed();
        return sight.seen.toString();
    }

    private void put(long answer) {
        seen.append(answer).append(' ');
    }

    private void told() {
        for (int what = 0; what <= 31; what++) {
            put(x.about(what));
        }
        put(x.fault(0));
        put(x.fault(1));
        for (int name = 0; name < 16; name++) {
            for (int what = 0; what <= 4; what++) {
                put(x.of(name, what));
            }
            for (int other = 0; other < name; other++) {
                put(x.alike(name, other));
            }
        }
    }

    private void rows() {
        for (int year = -41; year <= 61; year++) {
            put(x.unnamed(year));
            for (int row = 0; row < 12; row++) {
                for (int name = 0; name < x.about(1); name++) {
                    put(x.given(year, row / 4, row / 2 % 2, row % 2, name));
                }
            }
        }
    }

    private void trails() {
        put(x.shapes(0));
        put(x.shapes(1));
        put(x.lag(0));
        put(x.lag(1));
        for (int name = 0; name < x.about(1); name++) {
            put(x.shape(name, 2));
            put(x.shape(name, 3));
            put(x.crossed(name, 0));
            put(x.returned(name, 2, 0));
            put(x.age(name, 60, 0));
            put(x.guess(name));
            for (int film = 0; film < x.about(3); film++) {
                put(x.took(film, name, x.about(0) - 1));
            }
            put(x.sound(name, x.about(0) - 1));
        }
    }

    private void now() {
        for (int row = 0; row < 12; row++) {
            put(x.best(row / 4, row / 2 % 2, row % 2, 0));
            for (int name = 0; name < x.about(1); name++) {
                put(x.now(row / 4, row / 2 % 2, row % 2, 100 + name));
                put(x.now(row / 4, row / 2 % 2, row % 2, 200 + name));
            }
        }
    }

    private void printed() {
        for (int known = 0; known <= 61; known++) {
            for (int taste = 0; taste < x.about(4); taste++) {
                put(x.let(taste, known));
            }
        }
        for (int year = 0; year <= 60; year++) {
            put(x.parts(year, 2));
            put(x.parts(year, 3));
            for (int name = 0; name < x.about(1); name++) {
                put(x.span(year, 0, 0, name, false));
                put(x.span(year, 1, 1, name, true));
            }
        }
    }
}
