import java.util.ArrayList;
import java.util.List;
import java.util.Random;

/** Random runs, always the same ones, in which NineCopies must answer as Model does. */
public final class ModelTest {
    private static final int CALLS = 512;

    private final Random random;
    private final NineCopies x = new NineCopies();
    private final Model m = new Model();
    private final List<String> told = new ArrayList<>();
    private int calls;
    private boolean wrong;

    private ModelTest(long seed) {
        random = new Random(seed);
    }

    public static void main(String[] args) {
        int runs = args.length > 1 ? Integer.parseInt(args[1]) : 1500;
        int first = args.length > 2 ? Integer.parseInt(args[2]) : 1;
        int failed = 0;
        long[] sums = new long[15];
        for (int seed = first; seed < first + runs && failed < 3; seed++) {
            ModelTest run = new ModelTest(seed);
            if (!run.isAsDue(seed)) {
                failed++;
            }
            for (int what = 0; what < 15; what++) {
                sums[what] += run.x.look(what);
            }
        }
        StringBuilder shown = new StringBuilder("ModelTest: ");
        shown.append(runs).append(" runs, ").append(failed).append(" not as due; sums of look at the end:");
        for (int what = 0; what < 15; what++) {
            shown.append(' ').append(sums[what]);
        }
        System.out.println(shown);
        if (failed != 0) {
            System.exit(1);
        }
    }

    private boolean isAsDue(int seed) {
        begin();
        while (calls < CALLS && !wrong) {
            any();
        }
        if (wrong) {
            System.out.println("run " + seed + ":");
            for (String call : told) {
                System.out.println("  " + call);
            }
        }
        return !wrong;
    }

    private int below(int n) {
        return random.nextInt(n);
    }

    /** Mostly within the bounds, now and then at their edges or far out. */
    private int near(int least, int most) {
        int where = below(40);
        if (where == 0) {
            return least - 1;
        }
        if (where == 1) {
            return most + 1;
        }
        if (where == 2) {
            int[] far = {Integer.MIN_VALUE, Integer.MAX_VALUE, -1, 0, 1, 1 << 16, -1 << 16};
            return far[below(far.length)];
        }
        if (where < 6) {
            return below(2) == 0 ? least : most;
        }
        return least + below(Math.max(1, most - least + 1));
    }

    private void both(String call, long got, long want) {
        calls++;
        told.add(call + " = " + got);
        if (got != want) {
            told.set(told.size() - 1, call + " answered " + got + ", due is " + want);
            wrong = true;
        }
    }

    private void both(String call, boolean got, boolean want) {
        both(call, got ? 1 : 0, want ? 1 : 0);
    }

    private void begin() {
        int people = 1 + below(below(4) == 0 ? 16 : 8);
        for (int p = 0; p < people; p++) {
            person(below(6), below(3) == 0 ? below(3) : 0, below(100));
        }
        if (below(4) != 0) {
            both("set copies", x.set(6, 0, 1 + calls % 9), m.set(6, 0, 1 + calls % 9));
        }
        if (below(2) == 0) {
            int term = 1 + below(20);
            both("set term " + term, x.set(7, 0, term), m.set(7, 0, term));
        }
        if (below(2) == 0) {
            int blots = below(3) == 0 ? 1000 : below(200);
            both("set blots " + blots, x.set(8, 0, blots), m.set(8, 0, blots));
        }
        for (int p = 0; p < people; p++) {
            int paper = below(5) == 0 ? 0 : below(100);
            both("set paper " + p + " " + paper, x.set(3, p, paper), m.set(3, p, paper));
            int row = below(4) == 0 ? 0 : 1 + below(4);
            for (int i = 0; i < row; i++) {
                address(p, below(people));
            }
        }
        int versions = 1 + below(6);
        for (int v = 0; v < versions; v++) {
            version(below(10), below(1024));
        }
        for (int k = 0; k < 3; k++) {
            if (below(2) == 0) {
                text(k);
            }
        }
        for (int i = 0; i < 1 + below(6); i++) {
            hand(below(people), below(versions));
        }
    }

    private void person(int town, int kind, int lazy) {
        both("person " + town + " " + kind + " " + lazy, x.person(town, kind, lazy), m.person(town, kind, lazy));
    }

    private void address(int person, int to) {
        both("address " + person + " " + to, x.address(person, to), m.address(person, to));
    }

    private void version(int curse, int marks) {
        both("version " + curse + " " + marks, x.version(curse, marks), m.version(curse, marks));
    }

    private void hand(int person, int version) {
        both("hand " + person + " " + version, x.hand(person, version), m.hand(person, version));
    }

    private void days(int n) {
        both("days " + n, x.days(n), m.days(n));
    }

    private int people() {
        return Math.max(1, x.look(0));
    }

    private int versions() {
        return Math.max(1, x.look(1));
    }

    private void any() {
        int which = below(100);
        if (which < 22) {
            asks();
        } else if (which < 40) {
            thinks();
        } else if (which < 58) {
            acts();
        } else if (which < 66) {
            tells();
        } else if (which < 72) {
            int n = near(0, 24);
            both("look " + n, x.look(n), m.look(n));
        } else if (which < 78) {
            both("undo", x.undo(), m.undo());
        } else if (which < 81) {
            boolean taken = below(2) == 0;
            both("image " + taken, x.image(taken), m.image(taken));
        } else if (which < 84) {
            text(near(0, 2));
        } else if (which < 92) {
            looksAtAPerson();
        } else {
            picks();
        }
    }

    private void looksAtAPerson() {
        int p = near(0, people() - 1);
        int what = below(3) == 0 ? near(20, 29) : near(0, 10);
        both("of " + p + " " + what, x.of(p, what), m.of(p, what));
        for (int i = 0; i < 3; i++) {
            int asked = near(0, 6);
            both("letter " + p + " " + i + " " + asked, x.letter(p, i, asked), m.letter(p, i, asked));
        }
    }

    private void asks() {
        int what = near(0, 6);
        int i;
        switch (below(6)) {
            case 0:
                i = near(0, x.look(3));
                both("onWay " + i + " " + what, x.onWay(i, what), m.onWay(i, what));
                break;
            case 1:
                i = near(0, versions() - 1);
                both("kind " + i + " " + what, x.kind(i, what), m.kind(i, what));
                break;
            case 2:
                i = near(0, 5);
                both("post " + i + " " + what, x.post(i, what), m.post(i, what));
                break;
            case 3:
                i = near(0, Math.max(0, x.look(5) - 1));
                both("book " + i + " " + what, x.book(i, what), m.book(i, what));
                break;
            case 4:
                i = near(0, versions() - 1);
                int other = near(0, versions() - 1);
                both("forebear " + i + " " + other, x.forebear(i, other), m.forebear(i, other));
                break;
            default:
                i = below(4) == 0 ? near(0, 40) : below(6);
                both("knows " + i, x.knows(i), m.knows(i));
                break;
        }
    }

    private void thinks() {
        int n = below(3) == 0 ? near(0, 99) : below(15);
        switch (below(7)) {
            case 0:
                int town = near(-1, 5);
                both("many " + n + " " + town, x.many(n, town), m.many(n, town));
                break;
            case 1:
                both("over", x.over(), m.over());
                break;
            case 2:
                if (people() < 9 || below(12) == 0) {
                    both("stop " + n, x.stop(n), m.stop(n));
                }
                break;
            case 3:
                int p = near(0, people() - 1);
                both("reach " + p, x.reach(p), m.reach(p));
                break;
            case 4:
                int set = below(2) == 0 ? 1 << below(people()) : near(1, (1 << people()) - 1);
                int d = below(2) == 0 ? 1 + below(4) : near(1, 15);
                both("sources " + set + " " + d, x.sources(set, d), m.sources(set, d));
                break;
            case 5:
                int c = near(0, people() - 1);
                both("circle " + c, x.circle(c), m.circle(c));
                break;
            default:
                both("lasts " + n, x.lasts(n), m.lasts(n));
                break;
        }
    }

    private void acts() {
        switch (below(5)) {
            case 0:
                hand(near(0, people() - 1), near(0, versions() - 1));
                break;
            case 1:
                int p = near(0, people() - 1);
                int i = near(0, 2);
                both("burn " + p + " " + i, x.burn(p, i), m.burn(p, i));
                break;
            case 2:
                days(near(1, 60));
                break;
            default:
                days(1 + below(3));
                break;
        }
    }

    private void tells() {
        int most = people() - 1;
        switch (below(7)) {
            case 0:
                int v = below(3) == 0 ? near(0, 0) : random.nextInt();
                both("state " + v, x.state(v), m.state(v));
                break;
            case 1:
                person(near(0, 5), near(0, 2), near(0, 99));
                break;
            case 2:
                address(near(0, most), below(8) == 0 ? -1 : near(0, most));
                break;
            case 3:
                version(near(0, 9), near(0, 1023));
                break;
            default:
                int[] least = {0, 0, 0, 0, 0, 0, 1, 1, 0, 0};
                int[] highest = {5, 2, 99, 99, 9999, 1, 9, 20, 1000, 1};
                int what = below(3) == 0 ? 3 : near(0, 9);
                int value = what < 0 || what > 9 ? below(3) : near(least[what], highest[what]);
                int who = near(0, most);
                both("set " + what + " " + who + " " + value, x.set(what, who, value), m.set(what, who, value));
                break;
        }
    }

    private void picks() {
        if (below(3) == 0) {
            both("join", x.join(), m.join());
        } else {
            int v = below(15) == 0 ? -1 : near(0, versions() - 1);
            both("pick " + v, x.pick(v), m.pick(v));
        }
    }

    private void text(int k) {
        String text = TextMaker.make(random, k);
        String signs = text.length() > 400 ? text.substring(0, 400) : text;
        for (int at = 0; at < signs.length(); at += 20) {
            int[] five = new int[5];
            for (int i = 0; i < 20; i++) {
                int sign = at + i < signs.length() ? signs.charAt(at + i) : ' ';
                five[i / 4] = five[i / 4] << 8 | sign & 255;
            }
            both("feed", x.feed(five[0], five[1], five[2], five[3], five[4]),
                    m.feed(five[0], five[1], five[2], five[3], five[4]));
        }
        int n = below(30) == 0 ? near(0, 400) : signs.length();
        both("end " + n, x.end(n), m.end(n));
        if (below(40) == 0) {
            return;
        }
        both("text " + k + " '" + signs + "'", x.text(k), m.text(k));
        int what = near(0, 1);
        both("fault " + what, x.fault(what), m.fault(what));
        both("fault 1", x.fault(1), m.fault(1));
    }
}
