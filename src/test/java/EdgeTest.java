/** Edges that single runs of PromiseTest do not come to: full rows, last days, what stays behind what goes. */
public final class EdgeTest {
    private static final int NONE = NineCopies.NONE;

    public static void main(String[] args) {
        fullTape();
        lettersOfWords();
        missingTokens();
        staysAheadOfWhatGoes();
        blotsJustAt();
        overAtTheLastDay();
        stopAtItsBounds();
        stampsOfNearTowns();
        childrenAmongOthers();
        countsOfTheFirstPerson();
        lastsOfAllCurses();
        farthestJoin();
        undoOfLetters();
        imageOfAll();
        imageForgetsWhatCanBeUndone();
        imageLeavesNobodyBehind();
        lawsAtTheMost();
        strangeArguments();
        Check.finish("EdgeTest");
    }

    private static void same(String what, long got, long want) {
        Check.same(what, got, want);
    }

    private static void fullTape() {
        NineCopies x = new NineCopies();
        Check.lines(x, 0, "write 1" + "+1".repeat(196) + ";", 1);
        Check.lines(x, 0, "write 1" + "+1".repeat(194) + "+100;", 1);
        Check.faulty(x, 0, "write 1" + "+1".repeat(196) + "2", 1, 400);
        Check.faulty(x, 0, ";".repeat(400), 1, 0);
        Check.faulty(x, 0, " ".repeat(399) + ";", 1, 399);
        Check.faulty(x, 0, " ".repeat(395) + "write", 1, 400);
        Check.faulty(x, 0, "write 1 when " + "(".repeat(387), 3, 21);
        Check.faulty(x, 0, "a".repeat(400), 1, 0);
        Check.faulty(x, 0, "write " + "1".repeat(394), 1, 6);
    }

    private static void lettersOfWords() {
        NineCopies x = new NineCopies();
        for (char letter : "azAZmM".toCharArray()) {
            Check.faulty(x, 0, "write" + letter + " 1;", 1, 0);
            Check.faulty(x, 0, letter + "write 1;", 1, 0);
        }
        for (char sign : "`{@[_".toCharArray()) {
            Check.faulty(x, 0, "write" + sign + " 1;", 1, 5);
        }
        for (char sign : "/:".toCharArray()) {
            Check.faulty(x, 0, "write 1" + sign + ";", 1, sign == '/' ? 8 : 7);
        }
        Check.faulty(x, 0, "write da ys;", 1, 6);
        Check.faulty(x, 0, "write day s;", 1, 10);
        Check.lines(x, 0, "write 0+1234;write 5+6+7+8+9;", 2);
    }

    private static void missingTokens() {
        NineCopies x = new NineCopies();
        Check.faulty(x, 0, "write 1 when 1 2;", 1, 15);
        Check.faulty(x, 0, "write 1 when 1 2<3;", 1, 15);
        Check.faulty(x, 0, "write 1 when (1<2 3;", 1, 18);
        Check.faulty(x, 0, "write 1 when ();", 1, 14);
        Check.faulty(x, 0, "write 1 when not;", 1, 16);
        Check.faulty(x, 0, "write 1 when <2;", 1, 13);
        Check.faulty(x, 0, "write 1 when 1<;", 1, 15);
        Check.faulty(x, 0, "write when 1<2;", 1, 6);
        Check.faulty(x, 0, "write 1*;", 1, 8);
        Check.faulty(x, 0, "write 1/;", 1, 8);
        Check.faulty(x, 0, "write 1/(2);", 1, 8);
        Check.faulty(x, 0, "write 1/00000;", 1, 8);
        Check.faulty(x, 2, "post to 1 in 2;", 1, 5);
        Check.faulty(x, 2, "post 1 2 in 3;", 1, 7);
        Check.faulty(x, 2, "post 1 to in 3;", 1, 10);
        Check.faulty(x, 2, "post 1 to 2 3;", 1, 12);
        Check.faulty(x, 2, "post 1 to 2 in;", 1, 14);
        Check.faulty(x, 2, "post 1 to 2 in 3 post", 1, 17);
        Check.faulty(x, 2, "post 1 to 2 in 3;; ", 1, 17);
        Check.lines(x, 2, "post 0001 to 0002 in 0003;", 1);
        same("days of it", x.post(2, 1), 3);
        Check.lines(x, 0, "write 1/9999;", 1);
    }

    private static void staysAheadOfWhatGoes() {
        NineCopies x = new NineCopies();
        x.person(0, 0, 0);
        x.person(1, 0, 0);
        x.person(2, 0, 0);
        Check.tell(x, 2, "post 0 to 1 in 3;");
        Check.tell(x, 0, "write 9 when curse = 2; write 0;");
        x.version(1, 0);
        x.version(2, 0);
        x.set(3, 0, 99);
        x.set(6, 0, 2);
        x.address(0, 1);
        x.address(0, 2);
        x.hand(0, 0);
        x.hand(0, 1);
        x.days(1);
        same("b: what is not written out stays, first", x.letter(0, 0, 0), 0);
        same("b: what is behind it goes", x.of(0, 6), 1);
        same("a: the later one comes ahead", x.days(1), 1);
        same("a: the first stays on the way", x.onWay(0, 2), 1);
        same("a: alone", x.look(3), 1);
        same("a: not yet", x.days(1), 0);
        same("a: it comes on its day", x.days(1), 1);
        same("a: to whom", x.letter(1, 0, 0), 1);
        NineCopies y = Given.people(1);
        y.version(1, 0);
        y.set(7, 0, 9);
        y.hand(0, 0);
        y.version(1, 0);
        y.set(7, 0, 1);
        y.hand(0, 1);
        y.days(2);
        same("c: the later one is due ahead", y.look(8), 1);
        same("c: the first stays", y.letter(0, 0, 0), 0);
    }

    /** Looks for a state whose first draw is just what BLOTS are told as: that is not below it. */
    private static void blotsJustAt() {
        for (int state = 1; state < 3000; state += 77) {
            int drawn = ((state * 1664525 + 1013904223) >>> 8) % 1000;
            for (int blots = Math.max(1, drawn); blots <= drawn + 1; blots++) {
                NineCopies x = Given.people(2);
                x.version(3, 0);
                x.set(3, 0, 1);
                x.set(8, 0, blots);
                x.address(0, 1);
                x.state(state);
                x.hand(0, 0);
                x.days(1);
                same("blots just at the draw", x.look(1), drawn < blots ? 2 : 1);
            }
        }
    }

    private static void overAtTheLastDay() {
        // Ten steps by twenty days each; he who has no row loses it one day behind its coming.
        for (int term = 1; term <= 2; term++) {
            NineCopies x = Given.people(11);
            Check.tell(x, 2, "post 0 to 0 in 20;");
            x.version(3, 0);
            x.set(6, 0, 1);
            x.set(7, 0, term);
            for (int p = 0; p < 10; p++) {
                x.set(3, p, 1);
                x.address(p, p + 1);
            }
            x.set(1, 10, term == 1 ? 1 : 0);
            x.hand(0, 0);
            same("over behind 201 days is too late", x.over(), NONE);
            x.days(1);
            same("over a day later", x.over(), term == 1 ? 200 : NONE);
        }
    }

    private static void stopAtItsBounds() {
        NineCopies x = Given.people(5);
        x.version(3, 0);
        x.set(6, 0, 1);
        x.set(7, 0, 1);
        same("over now", x.stop(0), 0);
        for (int p = 0; p < 4; p++) {
            x.set(3, p, 9);
            x.address(p, 4);
            x.set(6, 0, 2);
            x.hand(p, 0);
            int all = (1 << p + 1) - 1;
            same("not over now", x.stop(0), NONE);
            Check.tell(x, 0, "write 9;");
            // Whoever writes, it is over behind 4 days; with all of them stopped behind 2.
            same("all who write, three at most", x.stop(2), p < 3 ? all : NONE);
            same("nobody with days enough", x.stop(99), 0);
            same("too many days", x.stop(100), NONE);
        }
        // Two who write to one another for ever, and no others.
        NineCopies y = Given.people(2);
        Check.tell(y, 0, "write 9;");
        y.version(3, 0);
        y.set(3, 0, 1);
        y.set(3, 1, 1);
        y.set(6, 0, 1);
        y.set(7, 0, 1);
        y.address(0, 1);
        y.address(1, 0);
        y.hand(0, 0);
        y.hand(1, 0);
        same("both of both", y.stop(2), 0);
        y.set(6, 0, 9);
        y.set(7, 0, 20);
        y.set(3, 0, 0);
        y.set(3, 1, 0);
        y.hand(0, 0);
        same("it helps nobody to be stopped", y.stop(20), NONE);
        same("it is due by then", y.stop(21), 0);
        // Slow post to one another, so it takes both of both.
        NineCopies w = Given.people(2);
        w.version(1, 1);
        Check.tell(w, 2, "post 0 to 0 in 5;");
        w.set(6, 0, 1);
        w.set(7, 0, 1);
        for (int p = 0; p < 2; p++) {
            w.set(3, p, 1);
            w.address(p, 1 - p);
            w.hand(p, 0);
        }
        same("it comes too late", w.stop(1), NONE);
        same("all people there are", w.stop(2), 3);
        same("still both", w.stop(5), 3);
        same("nobody", w.stop(6), 0);
        NineCopies z = Given.people(1);
        z.version(1, 1);
        z.hand(0, 0);
        same("the only one can't help it", z.stop(9), NONE);
        same("nor need he", z.stop(10), 0);
    }

    private static void stampsOfNearTowns() {
        NineCopies x = new NineCopies();
        for (int town = 0; town < 3; town++) {
            x.person(town, 0, 0);
        }
        x.version(1, 0);
        x.set(6, 0, 1);
        x.address(2, 0);
        x.address(2, 1);
        x.hand(2, 0);
        same("one day each", x.letter(2, 0, 6), 1);
        Check.tell(x, 2, "post 2 to 1 in 5; post 2 to 0 in 3; post 2 to 2 in 1;");
        same("the first person is the nearest", x.letter(2, 0, 6), 3);
        x.set(6, 0, 2);
        x.hand(2, 0);
        same("both", x.letter(2, 1, 6), 8);
        x.set(6, 0, 3);
        x.hand(2, 0);
        same("not three of two", x.letter(2, 2, 6), NONE);
    }

    private static void childrenAmongOthers() {
        NineCopies x = Given.people(3);
        x.version(1, 0);
        x.version(1, 0);
        x.version(1, 0);
        x.set(3, 0, 99);
        x.address(0, 1);
        x.address(0, 2);
        x.set(8, 0, 1000);
        Check.tell(x, 0, "write 2;");
        x.hand(0, 1);
        x.hand(0, 0);
        x.days(1);
        int[] wants = {2, 2, 0, 0, 0, 0, 0};
        for (int v = 0; v < 7; v++) {
            same("children of " + v, x.kind(v, 4), wants[v]);
        }
        x.set(3, 1, 99);
        x.address(1, 2);
        x.days(1);
        same("children of children too", x.kind(1, 4), 4 + 2);
        same("and of the others", x.kind(0, 4), 4 + 2);
        same("a stranger has none", x.kind(2, 4), 0);
    }

    private static void countsOfTheFirstPerson() {
        NineCopies x = Given.people(2);
        x.version(1, 0);
        x.version(1, 0);
        x.hand(0, 1);
        same("letters of it", x.kind(1, 5), 1);
        same("had by the first", x.kind(1, 6), 1);
        same("of the other version", x.kind(0, 5), 0);
        same("nor had", x.kind(0, 6), 0);
        same("many of the first", x.many(0, 0), 1);
        same("sources of the first", x.sources(2, 1), 2);
    }

    private static void lastsOfAllCurses() {
        for (int curse = 0; curse < 10; curse++) {
            NineCopies x = Given.people(2);
            x.version(curse, 0);
            x.version(9 - curse, 0);
            x.hand(1, 0);
            same("the only one", x.lasts(0), curse);
            x.hand(0, 1);
            same("the least of both", x.lasts(0), Math.min(curse, 9 - curse));
            x.hand(1, 0);
            same("the one that is more", x.lasts(0), curse);
        }
    }

    private static void farthestJoin() {
        NineCopies x = new NineCopies();
        x.pick(x.version(0, 0));
        x.pick(x.version(0, 1023));
        same("ten marks", x.join(), 10);
        x.pick(x.version(0, 1022));
        same("ten in all", x.join(), 10);
        x.pick(x.version(0, 1));
        same("by the near ones", x.join(), 1 + 9 + 1);
        x.pick(x.version(0, 1));
        same("the same marks join for nothing", x.join(), 11);
    }

    private static void undoOfLetters() {
        NineCopies x = Given.people(3);
        x.version(1, 0);
        x.version(2, 0);
        x.set(6, 0, 2);
        for (int p = 0; p < 3; p++) {
            x.set(3, p, 9);
            x.address(p, (p + 1) % 3);
        }
        x.hand(0, 0);
        x.hand(0, 1);
        x.days(2);
        int[] before = lettersOf(x);
        x.burn(1, 0);
        x.days(3);
        x.hand(2, 0);
        for (int i = 0; i < 5; i++) {
            Check.yes("undone", x.undo());
        }
        int[] behind = lettersOf(x);
        for (int i = 0; i < before.length; i++) {
            same("letters as they were, what " + i, behind[i], before[i]);
        }
        same("from is told", x.letter(1, 0, 1), 0);
    }

    private static int[] lettersOf(NineCopies x) {
        int[] all = new int[3 * 3 * 4 + 8 * 4];
        int n = 0;
        for (int p = 0; p < 3; p++) {
            for (int i = 0; i < 3; i++) {
                for (int what = 0; what < 4; what++) {
                    all[n++] = x.letter(p, i, what);
                }
            }
        }
        for (int i = 0; i < 8; i++) {
            for (int what = 0; what < 4; what++) {
                all[n++] = x.onWay(i, what);
            }
        }
        return all;
    }

    private static NineCopies lively() {
        NineCopies x = Given.people(4);
        x.set(6, 0, 2);
        x.set(8, 0, 700);
        x.version(7, 0);
        x.version(6, 15);
        for (int p = 0; p < 4; p++) {
            x.set(3, p, 40);
            x.set(4, p, 900);
            x.address(p, (p + 1) % 4);
            x.address(p, (p + 2) % 4);
        }
        x.hand(0, 0);
        x.hand(1, 1);
        x.days(4);
        return x;
    }

    private static int[] allOf(NineCopies x) {
        int[] all = new int[24 + 4 * 22 + 40 * 4 + 20 * 5 + 36];
        int n = 0;
        for (int what = 0; what < 24; what++) {
            all[n++] = what == 13 ? 0 : x.look(what);
        }
        for (int p = 0; p < 4; p++) {
            for (int what = 0; what < 22; what++) {
                all[n++] = x.of(p, what);
            }
        }
        for (int v = 0; v < 40; v++) {
            for (int what = 0; what < 4; what++) {
                all[n++] = x.kind(v, what);
            }
        }
        for (int i = 0; i < 20; i++) {
            for (int what = 0; what < 5; what++) {
                all[n++] = x.book(i, what);
            }
        }
        for (int i = 0; i < 36; i++) {
            all[n++] = x.post(i / 6, i % 6);
        }
        return all;
    }

    /** Two objects, since an object answers 512 calls alone and each look at all of it takes some 400. */
    private static void imageOfAll() {
        int[] due = allOf(lively());
        NineCopies x = lively();
        x.image(true);
        x.undo();
        x.undo();
        x.undo();
        x.state(99);
        x.version(1, 1);
        for (int p = 0; p < 4; p++) {
            x.address(p, NONE);
            x.address(p, (p + 3) % 4);
            x.set(0, p, 3);
            x.set(1, p, 0);
            x.set(2, p, 9);
            x.set(4, p, 1);
        }
        x.set(5, 2, 1);
        Check.tell(x, 2, "post 0 to 3 in 2; post 3 to 3 in 4;");
        x.days(9);
        x.image(false);
        int[] got = allOf(x);
        for (int i = 0; i < due.length; i++) {
            same("all as it was, what " + i, got[i], due[i]);
        }
    }

    private static void imageForgetsWhatCanBeUndone() {
        NineCopies x = Given.people(1);
        x.version(1, 0);
        x.version(2, 0);
        x.pick(1);
        x.image(true);
        x.hand(0, 0);
        x.days(2);
        x.pick(NONE);
        x.pick(0);
        same("three", x.look(13), 3);
        Check.yes("gone back to", x.image(false));
        same("none", x.look(13), 0);
        Check.no("none", x.undo());
        same("picked as it was", x.pick(1), NONE);
        same("the other is not picked", x.pick(0), 2);
        x.hand(0, 1);
        Check.yes("what is done behind it can be", x.undo());
        Check.no("and no more", x.undo());
    }

    private static void imageLeavesNobodyBehind() {
        NineCopies x = Given.people(1);
        x.version(5, 0);
        x.hand(0, 0);
        x.burn(0, 0);
        x.image(true);
        x.person(2, 0, 0);
        x.address(1, 0);
        x.address(0, 1);
        x.set(3, 0, 5);
        x.set(3, 1, 5);
        x.hand(0, 0);
        x.hand(1, 0);
        x.days(1);
        x.image(false);
        same("people", x.look(0), 1);
        same("letters in hands", x.look(4), 0);
        same("letters on the way", x.look(3), 0);
        same("letters of it", x.kind(0, 5), 0);
        same("over", x.over(), 0);
        same("many", x.many(0, NONE), 0);
        same("lasts", x.lasts(0), NONE);
        same("knows", x.knows(0), 1);
        same("reach", x.reach(0), 0);
        same("sources", x.sources(1, 5), 1);
        same("nobody else's sources", x.sources(2, 5), NONE);
        same("in his place", x.person(1, 0, 0), 1);
        for (int what = 3; what <= 10; what++) {
            same("nothing of him, what " + what, x.of(1, what), 0);
        }
        same("no letters of his", x.letter(1, 0, 0), NONE - 1);
    }

    private static void lawsAtTheMost() {
        NineCopies x = Given.people(1);
        x.version(3, 7);
        x.hand(0, 0);
        // Brackets as deep as they may be, with as much waiting at each as can.
        StringBuilder deep = new StringBuilder("write 7 when ");
        for (int i = 0; i < 8; i++) {
            deep.append("1=2 or 1=1 and (");
        }
        deep.append("1=2 or 1=1 and 1+2*3=1+2*3").append(")".repeat(8)).append("; write 2;");
        Check.lines(x, 0, deep.toString(), 2);
        same("deep", x.letter(0, 0, 4), 7);
        Check.lines(x, 0, deep.toString().replace("1+2*3=1+2*3", "1+2*3=1+2*4"), 2);
        same("deep and not so", x.letter(0, 0, 4), 2);
        StringBuilder lines = new StringBuilder();
        for (int i = 0; i < 15; i++) {
            lines.append("write 3 when marks>").append(3 + i).append(";");
        }
        lines.append("write 8;");
        Check.lines(x, 0, lines.toString(), 16);
        same("the last line", x.letter(0, 0, 4), 8);
        same("ints wrap", luck(x, "ill 7 when 9999*9999*9999<0;ill 8;"), 9999 * 9999 * 9999 < 0 ? 7 : 8);
        same("a part ahead of what it is taken from", luck(x, "ill 0-7*1/2+100;"), 100 - 7 / 2);
        same("what wrapped is below 0, its part goes towards 0", luck(x, "ill 0-9999*9999*30/9999/9999+50;"), 50 - 9999 * 9999 * 30 / 9999 / 9999);
    }

    private static int luck(NineCopies x, String law) {
        Check.lines(x, 1, law, law.split(";").length);
        return x.letter(0, 0, 5);
    }

    /** No answer is asked for here but that there is one. */
    private static void strangeArguments() {
        int[] strange = {Integer.MIN_VALUE, Integer.MIN_VALUE + 1, -65536, -2, -1, 0, 1, 15, 16, 31, 32, 63, 64, 65536,
            Integer.MAX_VALUE - 1, Integer.MAX_VALUE};
        for (int a : strange) {
            for (int b : strange) {
                NineCopies x = lively();
                int sum = x.state(a) + x.of(a, b) + x.letter(a, b, 4) + x.letter(0, a, b) + x.onWay(a, b) + x.kind(a, b);
                sum += x.post(a, b) + x.book(a, b) + x.many(a, b) + x.stop(a) + x.reach(a) + x.sources(a, b);
                sum += x.circle(a) + x.pick(a) + x.join() + x.forebear(a, b) + x.lasts(a) + x.knows(a) + x.look(a);
                sum += x.person(a, b, a) + x.address(a, b) + x.version(a, b) + x.feed(a, b, a, b, a) + x.text(a);
                sum += x.fault(a) + x.days(a) + x.over() + (x.set(a, b, a) ? 1 : 0) + (x.hand(a, b) ? 1 : 0);
                sum += (x.burn(a, b) ? 1 : 0) + (x.end(a) ? 1 : 0) + (x.undo() ? 1 : 0) + (x.image(a > b) ? 1 : 0);
                same("an answer", sum, sum);
            }
        }
    }
}
