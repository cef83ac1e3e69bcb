import java.util.Arrays;

/** Beginnings of runs that several tests share, and all that can be seen of an object. */
final class Given {
    private static final int NONE = NineCopies.NONE;

    /** People of town 0, plain. */
    static NineCopies people(int count) {
        return inTowns(new int[count]);
    }

    static NineCopies inTowns(int... towns) {
        NineCopies x = new NineCopies();
        for (int town : towns) {
            x.person(town, 0, 0);
        }
        return x;
    }

    static void row(NineCopies x, int person, int... tos) {
        for (int to : tos) {
            x.address(person, to);
        }
    }

    static void rules(NineCopies x, int copies, int term) {
        x.set(6, 0, copies);
        x.set(7, 0, term);
    }

    /** Two people and version 0; the first has paper, writes as many copies as he can, and has the second's address. */
    static NineCopies writer(int copies, int paper) {
        NineCopies x = people(2);
        x.version(5, 0);
        rules(x, copies, 9);
        x.set(3, 0, paper);
        x.address(0, 1);
        Check.tell(x, 0, "write 9;");
        return x;
    }

    /** People in a ring of rows, each with paper, and version 0. */
    static NineCopies ring(int count, int copies, int term, int paper) {
        NineCopies x = people(count);
        rules(x, copies, term);
        for (int p = 0; p < count; p++) {
            x.set(3, p, paper);
            x.address(p, (p + 1) % count);
        }
        x.version(4, 3);
        return x;
    }

    /** The STATE from which a draw makes it this one. */
    static int stateBefore(int state) {
        int inverse = 1664525;
        for (int i = 0; i < 5; i++) {
            inverse *= 2 - 1664525 * inverse;
        }
        return (state - 1013904223) * inverse;
    }

    static int stateBehind(int state) {
        return state * 1664525 + 1013904223;
    }

    static int drawn(int state, int m) {
        return (int) ((state & 0xffffffffL) / 256 % m);
    }

    /** Something of each kind, and each day changes it: rows, letters in hands and on the way, a book, blots, texts. */
    static NineCopies lively() {
        NineCopies x = people(3);
        x.person(2, 2, 7);
        x.person(1, 1, 9);
        x.person(5, 0, 9);
        rules(x, 3, 3);
        x.set(8, 0, 600);
        x.version(7, 0);
        x.version(6, 1);
        for (int p = 0; p < 3; p++) {
            x.set(3, p, 40);
            x.set(4, p, 900);
            row(x, p, (p + 1) % 3, 3, (p + 1) % 3, (p + 2) % 3, 3, 4);
        }
        x.set(4, 5, 30);
        Check.tell(x, 0, "write 2 when left > 2; write 1 when marks < 3;write 0;");
        Check.tell(x, 1, "ill 7;");
        Check.tell(x, 2, "post 0 to 2 in 3;");
        x.state(4711);
        x.pick(1);
        x.pick(0);
        x.hand(0, 0);
        x.hand(1, 1);
        x.hand(3, 1);
        x.hand(5, 0);
        x.days(3);
        return x;
    }

    /** What looks, people, versions, the way and the book answer, by some 350 calls for an object like the lively one. */
    static int[] seen(NineCopies x) {
        int[] all = new int[2000];
        int n = 0;
        for (int what = 0; what < 24; what++) {
            all[n++] = x.look(what);
        }
        for (int p = 0; p < x.look(0); p++) {
            for (int what = 0; what < 22; what++) {
                all[n++] = x.of(p, what);
            }
            for (int i = 0; i < x.of(p, 6); i++) {
                for (int what = 0; what < 6; what++) {
                    all[n++] = x.letter(p, i, what);
                }
            }
        }
        for (int v = 0; v < Math.min(9, x.look(1)); v++) {
            for (int what = 0; what < 7; what++) {
                all[n++] = x.kind(v, what);
            }
        }
        for (int i = 0; i < Math.min(8, x.look(3)); i++) {
            for (int what = 0; what < 4; what++) {
                all[n++] = x.onWay(i, what);
            }
        }
        for (int i = 0; i < Math.min(8, x.look(5)); i++) {
            for (int what = 0; what < 5; what++) {
                all[n++] = x.book(i, what);
            }
        }
        all[n++] = x.join();
        all[n++] = x.post(0, 2);
        return Arrays.copyOf(all, n);
    }
}
