import java.util.Random;

/** STOP among many people, where the class skips sets that Model tries: the same random runs each time. */
public final class StopTest {
    private static final NineCopies NOBODY = new NineCopies();

    public static void main(String[] args) {
        int[] sizes = new int[4];
        for (int seed = 0; seed < 300; seed++) {
            Random random = new Random(seed);
            NineCopies x = new NineCopies();
            Model m = new Model();
            begin(random, x, m);
            int over = x.over();
            Check.same("over, run " + seed, over, m.over());
            for (int i = 0; i < 4; i++) {
                int n = random.nextInt(over < 0 ? 40 : Math.min(99, over + 2));
                int set = x.stop(n);
                Check.same("stop " + n + ", run " + seed, set, m.stop(n));
                if (set > 0) {
                    sizes[Integer.bitCount(set)]++;
                }
            }
        }
        Check.yes("sets of one, two and three came", sizes[1] > 0 && sizes[2] > 0 && sizes[3] > 0);
        Check.same("nobody is stopped where nobody is", NOBODY.stop(99), 0);
        Check.finish("StopTest");
    }

    private static void begin(Random random, NineCopies x, Model m) {
        int people = 6 + random.nextInt(11);
        for (int p = 0; p < people; p++) {
            int kind = random.nextInt(6) == 0 ? 1 + random.nextInt(2) : 0;
            Check.same("person", x.person(p % 6, kind, p), m.person(p % 6, kind, p));
        }
        Check.same("version", x.version(3, 1), m.version(3, 1));
        set(x, m, 6, 0, 1 + random.nextInt(4));
        set(x, m, 7, 0, 1 + random.nextInt(6));
        for (int p = 0; p < people; p++) {
            set(x, m, 3, p, random.nextInt(12));
            set(x, m, 5, p, random.nextInt(10) == 0 ? 1 : 0);
            for (int i = random.nextInt(4); i > 0; i--) {
                int to = random.nextInt(people);
                Check.same("address", x.address(p, to), m.address(p, to));
            }
        }
        for (int i = random.nextInt(5); i >= 0; i--) {
            int p = random.nextInt(people);
            Check.same("hand", x.hand(p, 0) ? 1 : 0, m.hand(p, 0) ? 1 : 0);
        }
        int days = random.nextInt(3);
        Check.same("days", x.days(days), m.days(days));
    }

    private static void set(NineCopies x, Model m, int what, int p, int v) {
        Check.same("set", x.set(what, p, v) ? 1 : 0, m.set(what, p, v) ? 1 : 0);
    }
}
