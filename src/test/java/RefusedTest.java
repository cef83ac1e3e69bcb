import java.util.ArrayList;
import java.util.List;
import java.util.function.ToIntFunction;

/** Each call that the document refuses answers so and changes nothing that can be seen. */
public final class RefusedTest {
    private static final int NONE = NineCopies.NONE;
    private static final int[] FAR = {Integer.MIN_VALUE, Integer.MAX_VALUE};

    private record Refused(String call, int due, ToIntFunction<NineCopies> made) { }

    private static final List<Refused> ALL = new ArrayList<>();

    public static void main(String[] args) {
        people();
        acts();
        tape();
        thoughts();
        int[] due = Given.seen(Given.lively());
        for (Refused one : ALL) {
            Check.sentence("NONE or false, and nothing is changed: " + one.call);
            NineCopies x = Given.lively();
            Check.same("the call", one.made.applyAsInt(x), one.due);
            Check.all("all as it was", Given.seen(x), due);
            Check.yes("the latest can be undone", x.undo());
        }
        full();
        Check.finish("RefusedTest");
    }

    private static void full() {
        ALL.clear();
        none("a seventeenth person", x -> x.person(0, 0, 0));
        none("a forty-first version", x -> x.version(0, 0));
        none("a tenth address", x -> x.address(0, 1));
        no("a fourth letter", x -> x.hand(0, 0));
        none("a ninth picked one", x -> x.pick(8));
        none("a picked one again", x -> x.pick(7));
        none("a day behind the last", x -> x.days(1));
        none("sixty days behind the last", x -> x.days(60));
        none("more than 400 bytes", x -> x.feed(0, 0, 0, 0, 0));
        no("more bytes than there are", x -> x.end(401));
        int[] due = seenOfFull(allFull());
        for (Refused one : ALL) {
            Check.sentence("NONE or false, and nothing is changed where all is full: " + one.call);
            NineCopies x = allFull();
            Check.same("the call", one.made.applyAsInt(x), one.due);
            Check.all("all as it was", seenOfFull(x), due);
            Check.yes("the latest can be undone", x.undo());
            Check.same("it is the third letter", x.of(0, 6), 2);
        }
    }

    private static NineCopies allFull() {
        NineCopies x = Given.people(16);
        for (int i = 0; i < 166; i++) {
            x.days(60);
        }
        x.days(39);
        for (int v = 0; v < 40; v++) {
            x.version(v % 10, v);
        }
        for (int i = 0; i < 9; i++) {
            x.address(0, i + 1);
        }
        for (int v = 0; v < 8; v++) {
            x.pick(v);
        }
        for (int i = 0; i < 3; i++) {
            x.hand(0, i);
        }
        for (int i = 0; i < 20; i++) {
            x.feed(0x20202020, 0x20202020, 0x20202020, 0x20202020, 0x20202020);
        }
        return x;
    }

    private static int[] seenOfFull(NineCopies x) {
        int[] all = new int[24 + 30 + 3 * 7 + 4];
        int n = 0;
        for (int what = 0; what < 24; what++) {
            all[n++] = x.look(what);
        }
        for (int what = 0; what < 30; what++) {
            all[n++] = x.of(0, what);
        }
        for (int i = 0; i < 3; i++) {
            for (int what = 0; what < 7; what++) {
                all[n++] = x.letter(0, i, what);
            }
        }
        all[n++] = x.join();
        all[n++] = x.kind(39, 1);
        all[n++] = x.knows(1);
        all[n++] = x.end(400) ? 1 : 0;
        return all;
    }

    private static void none(String call, ToIntFunction<NineCopies> made) {
        ALL.add(new Refused(call, NONE, made));
    }

    private static void no(String call, java.util.function.Predicate<NineCopies> made) {
        ALL.add(new Refused(call, 0, x -> made.test(x) ? 1 : 0));
    }

    private static int[] with(int... near) {
        int[] all = new int[near.length + FAR.length];
        System.arraycopy(near, 0, all, 0, near.length);
        System.arraycopy(FAR, 0, all, near.length, FAR.length);
        return all;
    }

    private static void people() {
        for (int v : with(-1, 6)) {
            none("person of town " + v, x -> x.person(v, 0, 0));
        }
        for (int v : with(-1, 3)) {
            none("person of kind " + v, x -> x.person(0, v, 0));
        }
        for (int v : with(-1, 100)) {
            none("person of lazy " + v, x -> x.person(0, 0, v));
        }
        int[] least = {0, 0, 0, 0, 0, 0, 1, 1, 0, 0};
        int[] most = {5, 2, 99, 99, 9999, 1, 9, 20, 1000, 1};
        for (int what = 0; what < 10; what++) {
            int its = what;
            for (int v : with(least[what] - 1, most[what] + 1)) {
                no("set " + what + " to " + v, x -> x.set(its, 0, v));
            }
            for (int person : with(-1, 6)) {
                if (what < 6) {
                    no("set " + what + " of person " + person, x -> x.set(its, person, 1));
                }
            }
        }
        for (int what : with(-1, 10)) {
            no("set what " + what, x -> x.set(what, 0, 1));
        }
        for (int v : with(-2, 6, 0)) {
            none("address " + v + " of 0", x -> x.address(0, v));
        }
        for (int v : with(-1, 6)) {
            none("address of person " + v, x -> x.address(v, 1));
            none("no address of person " + v, x -> x.address(v, NONE));
        }
        for (int v : with(-1, 10)) {
            none("version of curse " + v, x -> x.version(v, 0));
        }
        for (int v : with(-1, 1024)) {
            none("version of marks " + v, x -> x.version(0, v));
        }
    }

    private static void acts() {
        for (int v : with(-1, 6)) {
            no("hand to person " + v, x -> x.hand(v, 0));
            no("burn of person " + v, x -> x.burn(v, 0));
        }
        for (int v : with(-1, 40)) {
            no("hand of version " + v, x -> x.hand(2, v));
        }
        no("hand to a burner", x -> x.hand(4, 0));
        no("hand of the next version", x -> x.hand(2, x.look(1)));
        for (int v : with(-1, 3)) {
            no("burn of letter " + v, x -> x.burn(3, v));
        }
        no("burn of the next letter", x -> x.burn(3, x.of(3, 6)));
        for (int v : with(-1, 0, 61)) {
            none("days " + v, x -> x.days(v));
        }
        for (int v : with(-2, 40, 0, 1)) {
            none("pick " + v, x -> x.pick(v));
        }
        none("pick of the next version", x -> x.pick(x.look(1)));
        no("image that is not there", x -> x.image(false));
    }

    private static void tape() {
        for (int v : with(-1, 1)) {
            no("end " + v, x -> x.end(v));
        }
        for (int v : with(-1, 3)) {
            none("text " + v, x -> x.text(v));
        }
        none("text with a fault", x -> Check.tell(x, 0, "write 1;write"));
        none("luck with a fault", x -> Check.tell(x, 1, "ill 1/0;"));
        none("post with a fault", x -> Check.tell(x, 2, "post 0 to 2 in 4;post"));
        for (int v : with(-1, 2)) {
            none("fault " + v, x -> x.fault(v));
        }
    }

    private static void thoughts() {
        for (int v : with(-1, 100)) {
            none("many " + v, x -> x.many(v, NONE));
            none("stop " + v, x -> x.stop(v));
            none("lasts " + v, x -> x.lasts(v));
        }
        for (int v : with(-2, 6)) {
            none("many of town " + v, x -> x.many(0, v));
        }
        for (int v : with(-1, 6)) {
            none("reach " + v, x -> x.reach(v));
            none("circle " + v, x -> x.circle(v));
        }
        for (int v : with(-1, 0, 64)) {
            none("sources of " + v, x -> x.sources(v, 1));
            none("sources by " + v, x -> x.sources(1, v));
        }
        none("sources by 16", x -> x.sources(1, 16));
        for (int v : with(-1, 40)) {
            none("forebear of " + v, x -> x.forebear(v, 0));
            none("forebear and " + v, x -> x.forebear(0, v));
        }
        for (int v : with(-1, 41)) {
            none("knows " + v, x -> x.knows(v));
        }
        for (int v : with(-1, 6)) {
            none("post of " + v, x -> x.post(v, 0));
            none("post to " + v, x -> x.post(0, v));
        }
    }
}
