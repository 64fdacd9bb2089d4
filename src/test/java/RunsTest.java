/** Promises 23 and 24: took and sound, by runs of all years anew. */
public final class RunsTest {
    private static final Due due = new Due();

    private static void took() {
        CradleNames x = new CradleNames();
        x.name(Due.letters("ab"), 1);
        x.name(Due.letters("cd"), 1);
        Due.taste(x, "worth film;");
        x.by(0, 0);
        x.cradles(0, 0, 0, 3);
        due.is("a film", x.film(1, 1, 4), 0);
        due.is("a film that changes nothing", x.film(0, 5, 1), 1);
        x.years(6);
        int[] brought = {0, 3, 3, 3, 0, 0};
        for (int y = 0; y < 6; y++) {
            due.is("brought to 1 in " + y, x.took(0, 1, y), brought[y]);
            due.is("took from 0 in " + y, x.took(0, 0, y), -brought[y]);
            due.is("nothing in " + y, x.took(1, 0, y), 0);
        }
        due.is("not gone by", x.took(0, 0, 6), -1000);
        due.is("year -1", x.took(0, 0, -1), -1000);
        due.is("film 2", x.took(2, 0, 0), -1000);
        due.is("film -1", x.took(-1, 0, 0), -1000);
        due.is("name 2", x.took(0, 2, 0), -1000);
        due.is("name -1", x.took(0, -1, 0), -1000);
        due.is("asking changes nothing", x.given(1, 0, 0, 0, 1), 3);
    }

    /** What one film brings lasts on by what was heard of it. */
    private static void tookLater() {
        CradleNames x = new CradleNames();
        x.name(Due.letters("ab"), 1);
        x.name(Due.letters("cd"), 1);
        Due.taste(x, "worth film+near;");
        x.by(0, 0);
        x.cradles(0, 0, 0, 1);
        x.film(1, 0, 1);
        x.years(20);
        due.is("still in 19", x.took(0, 1, 19), 1);
        due.is("still in 19 from 0", x.took(0, 0, 19), -1);
    }

    /** A run has cradles, tastes and names as they were in each year. */
    private static void asTheyWere() {
        CradleNames x = new CradleNames();
        x.name(Due.letters("ab"), 1);
        x.name(Due.letters("cd"), 1);
        Due.taste(x, "worth film;");
        Due.taste(x, "worth 0-film;");
        x.by(0, 0);
        x.cradles(0, 0, 0, 2);
        x.film(1, 0, 999);
        x.years(1);
        x.by(0, 1);
        x.cradles(0, 0, 0, 4);
        x.name(Due.letters("ef"), 1);
        x.film(2, 1, 500);
        x.years(1);
        x.by(0, -1);
        x.cradles(0, 0, 0, 6);
        x.years(1);
        due.is("in 0", x.took(0, 1, 0), 2);
        due.is("in 0 from 0", x.took(0, 0, 0), -2);
        due.is("the later name got none in 0", x.took(0, 2, 0), 0);
        due.is("in 1 it kept them from 1", x.took(0, 1, 1), 0);
        due.is("0 got all", x.given(1, 0, 0, 0, 0), 4);
        due.is("and would without", x.took(0, 0, 1), 0);
        due.is("in 2 none holds, nor for the later name", x.took(0, 2, 2), 0);
        due.is("in 2 none holds", x.took(0, 1, 2), 0);
        CradleNames y = new CradleNames();
        y.name(Due.letters("ab"), 1);
        Due.taste(y, "worth long;");
        y.by(0, 0);
        y.cradles(0, 0, 0, 1);
        y.film(0, 0, 1);
        y.years(2);
        y.name(Due.letters("abc"), 1);
        y.years(1);
        due.is("a name told at 2 in the run of 1", y.took(0, 1, 1), 0);
        due.is("in that of 2", y.took(0, 1, 2), 0);
        due.is("it was given", y.given(2, -1, -1, -1, 1), 1);
    }

    /** Each run begins anew from what was told, with sound if it is one without a film. */
    private static void anew() {
        CradleNames x = new CradleNames();
        x.name(Due.letters("bob"), 1);
        x.name(Due.letters("ida"), 1);
        x.name(Due.letters("eva"), 1);
        x.born(0, 1, 0, 0, 1, 1);
        x.born(1, 1, 0, 0, 2, 1);
        x.born(2, 1, 0, 0, 40, 1);
        Due.taste(x, "worth gone*100+sound+near*0+film;");
        x.by(0, 0);
        x.cradles(0, 0, 0, 2);
        x.film(0, 0, 1);
        x.years(5);
        for (int i = 0; i < 3; i++) {
            for (int name = 0; name < 3; name++) {
                for (int y = 4; y >= 0; y--) {
                    due.is("a film too small in " + y, x.took(0, name, y), 0);
                }
            }
        }
        CradleNames z = new CradleNames();
        z.name(Due.letters("bob"), 1);
        z.name(Due.letters("ida"), 1);
        z.name(Due.letters("eva"), 1);
        z.born(1, 1, 0, 0, 1, 5);
        Due.taste(z, "worth sound*long;");
        z.by(0, 0);
        z.cradles(0, 0, 0, 1);
        z.film(0, 0, 999);
        z.years(2);
        due.is("sound stays in a run without a film", z.took(0, 2, 0), 0);
        due.is("without sound all are like", z.sound(0, 0), -1);
        due.is("and the lowest is given", z.sound(1, 0), 0);
    }

    private static void sound() {
        CradleNames x = new CradleNames();
        x.name(Due.letters("bob"), 1);
        x.name(Due.letters("ida"), 1);
        x.name(Due.letters("eva"), 1);
        x.born(1, 0, 0, 0, 1, 5);
        Due.taste(x, "worth sound;");
        x.by(0, 0);
        x.cradles(0, 0, 0, 2);
        x.years(2);
        due.is("eva in 0", x.sound(2, 0), 2);
        due.is("bob in 0", x.sound(0, 0), -2);
        due.is("ida in 0", x.sound(1, 0), 0);
        due.is("ida in 1", x.sound(1, 1), 2);
        due.is("eva in 1", x.sound(2, 1), 0);
        due.is("not gone by", x.sound(0, 2), -1000);
        due.is("year -1", x.sound(0, -1), -1000);
        due.is("name 3", x.sound(3, 0), -1000);
        due.is("name -1", x.sound(-1, 0), -1000);
        due.is("asking changes nothing", x.now(0, 0, 0, 102), 2);
    }

    public static void main(String[] args) {
        took();
        tookLater();
        asTheyWere();
        anew();
        sound();
        due.end();
    }
}
