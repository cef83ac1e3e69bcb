/** The boundary cases of 4 IN THOUGHT, a sentence a test: promises 20 to 30. */
public final class BoundsOfThoughtTest {
    private static final int NONE = NineCopies.NONE;

    public static void main(String[] args) {
        nothingStays();
        noBlots();
        noBlotOfTheLeastDraw();
        allThatThereCanBe();
        manyBehindDays();
        manyOfTowns();
        manyNowAndFar();
        overAtOnce();
        overByTwoHundred();
        overButForConvents();
        overWithFrost();
        stopByDays();
        stopOfFarDays();
        stopThreeAtMost();
        stopTheFewest();
        stopTheLeastSet();
        stopToWhomItComes();
        stopAllThereAre();
        stopAmongFew();
        stopOfTheLast();
        reachOfSomeSteps();
        reachOfWhomeverHeIs();
        reachOfNobody();
        sourcesByStepsAtMost();
        sourcesOfASet();
        sourcesButHimself();
        sourcesOverPlainOnes();
        circleOfFewestSteps();
        circleThatDoesNotComeBack();
        eightPicked();
        pickedAreUnlike();
        noneIsPickedThen();
        joinOfFewerThanTwo();
        joinOfAllTrees();
        forebearIsTheYoungest();
        forebearOfNone();
        childrenStraightOrNot();
        lastsTheLeastOfSeveral();
        lastsWithoutLetters();
        lastsBehindDays();
        knowsAtLeast();
        knowsOfNoneAndForty();
        Check.finish("BoundsOfThoughtTest");
    }

    /** A letter that goes from the first town to the next and comes to the last person on this day, by legs of twenty. */
    private static NineCopies journey(int day, int lastKind) {
        NineCopies x = new NineCopies();
        int legs = (day + 19) / 20;
        Check.tell(x, 2, "post 0 to 1 in 20;post 0 to 2 in " + (day - 20 * (legs - 1)) + ";post 1 to 2 in "
                + (day - 20 * (legs - 1)) + ";");
        for (int p = 0; p <= legs; p++) {
            x.person(p == legs ? 2 : p % 2, p == legs ? lastKind : 0, 0);
        }
        x.version(5, 0);
        Given.rules(x, 1, 1);
        for (int p = 0; p < legs; p++) {
            x.set(3, p, 1);
            x.address(p, p + 1);
        }
        x.hand(0, 0);
        return x;
    }

    private static void nothingStays() {
        Check.sentence("4. IN THOUGHT (nothing of it stays)");
        for (int which = 0; which < 8; which++) {
            NineCopies x = Given.lively();
            switch (which) {
                case 0: x.many(99, NONE); break;
                case 1: x.over(); break;
                case 2: x.stop(9); break;
                case 3: x.reach(0); x.circle(0); break;
                case 4: x.sources(3, 15); break;
                case 5: x.join(); x.forebear(0, 1); break;
                case 6: x.lasts(99); break;
                default: x.knows(1); x.letter(0, 0, 6); break;
            }
            Check.all("all as it was behind " + which, Given.seen(x), Given.seen(Given.lively()));
            Check.yes("and can be undone", x.undo());
        }
    }

    private static void noBlots() {
        Check.sentence("4. IN THOUGHT (no BLOTS)");
        // Of this state the first blot changes mark 0, which makes the curse less.
        int state = Given.stateBefore(Given.stateBefore(0));
        for (int blots = 0; blots <= 1000; blots += 1000) {
            NineCopies x = Given.writer(1, 1);
            Check.tell(x, 0, "");
            x.state(state);
            x.set(8, 0, blots);
            x.hand(0, 0);
            Check.same("the curse that it is", x.lasts(2), 5);
            Check.same("the state", x.look(6), state);
            x.days(2);
            Check.same("the curse that comes of it", x.letter(1, 0, 0) == 0 ? 5 : x.kind(1, 0), blots == 0 ? 5 : 4);
        }
        NineCopies y = Given.ring(3, 2, 9, 9);
        y.set(8, 0, 1000);
        for (int v = 1; v < 40; v++) {
            y.version(9, 0);
        }
        y.hand(0, 0);
        Check.same("with forty versions too", y.lasts(1), 4);
        Check.same("no draw", y.look(6), 0);
    }

    private static void noBlotOfTheLeastDraw() {
        Check.sentence("4. IN THOUGHT (no BLOTS, not one of a draw of 0)");
        // A state of which the first draw is 0, below any BLOTS, and the second mark 0.
        int state = 0;
        while (Given.drawn(state, 1000) != 0 || Given.drawn(Given.stateBehind(state), 10) != 0) {
            state++;
        }
        for (int blots : new int[] {0, 1, 1000}) {
            NineCopies x = Given.writer(1, 1);
            x.state(Given.stateBefore(state));
            x.set(8, 0, blots);
            x.hand(0, 0);
            Check.same("the curse that it is", x.lasts(2), 5);
            x.days(2);
            Check.same("the curse that comes of it", x.lasts(0), blots == 0 ? 5 : 4);
        }
    }

    private static void allThatThereCanBe() {
        Check.sentence("PEOPLE 0 .. 15, VERSIONS 0 .. 39, 3 in hands, 60 on the WAY, nine ADDRESSES, PICKED up to 8");
        NineCopies x = Given.people(16);
        for (int v = 0; v < 40; v++) {
            x.version(v % 10, v);
        }
        Check.tell(x, 0, "write 9;");
        Check.tell(x, 2, "post 0 to 0 in 20;");
        for (int p = 8; p < 16; p++) {
            x.set(3, p, p == 15 ? 0 : 9);
            for (int i = 0; i < 9; i++) {
                x.address(p, i < 8 ? i : p == 15 ? 8 : p + 1);
            }
            x.hand(p, 39);
            x.hand(p, 38);
            x.hand(p, 38);
        }
        for (int v = 32; v < 40; v++) {
            x.pick(v);
        }
        x.days(1);
        Check.same("on the way", x.look(3), 60);
        Check.same("in hands", x.look(4), 24 - 7);
        Check.same("many of all", x.many(0, NONE), 17);
        Check.same("many of a town", x.many(0, 0), 17);
        Check.same("none behind the most days", x.many(99, 0), 0);
        Check.same("over", x.over(), 29);
        Check.same("stop", x.stop(29), 0);
        Check.same("stop nobody a day ahead", x.stop(28), NONE);
        Check.same("lasts", x.lasts(0), 8);
        Check.same("lasts of those that come", x.lasts(21), 9);
        Check.same("knows", x.knows(2), 0xff00);
        Check.same("letters of the last", x.kind(39, 5), 60 + 1);
        Check.same("letters of another", x.kind(38, 5), 16);
        Check.same("letters of none", x.kind(37, 5), 0);
        Check.same("had", x.kind(39, 6), 1);
        Check.same("not had", x.kind(37, 6), 0);
        Check.same("reach", x.reach(15), 0xffff);
        Check.same("sources", x.sources(1, 15), 0xff01);
        Check.same("sources of the last", x.sources(1 << 15, 7), 0xff00);
        Check.same("sources of the last by a step", x.sources(1 << 15, 1), 3 << 14);
        Check.same("circle", x.circle(15), 8);
        Check.same("join", x.join(), 7);
        Check.same("stamps", x.letter(15, 0, 6), 180);
    }

    private static void manyBehindDays() {
        Check.sentence("MANY: behind n (0 .. 99) DAYS; NONE if one can't be.");
        NineCopies x = Given.people(1);
        x.version(1, 0);
        x.hand(0, 0);
        for (int n : new int[] {-1, 100, Integer.MIN_VALUE, Integer.MAX_VALUE}) {
            Check.same(n + " days", x.many(n, NONE), NONE);
            Check.same(n + " days of a town", x.many(n, 0), NONE);
        }
        Check.same("now", x.many(0, NONE), 1);
        Check.same("on the day on which it is due", x.many(9, NONE), 1);
        Check.same("behind it", x.many(10, NONE), 0);
        Check.same("behind the most days", x.many(99, NONE), 0);
    }

    private static void manyOfTowns() {
        Check.sentence("MANY: how many LETTERS people of a TOWN (NONE: all) have");
        NineCopies x = Given.inTowns(0, 5, 5, 3);
        x.version(1, 0);
        for (int p = 0; p < 4; p++) {
            x.hand(p, 0);
        }
        x.hand(2, 0);
        x.set(1, 3, 2);
        int[] due = {1, 0, 0, 1, 0, 3};
        for (int town = 0; town < 6; town++) {
            Check.same("town " + town, x.many(0, town), due[town]);
        }
        Check.same("all", x.many(0, NONE), 5);
        for (int town : new int[] {-2, 6, Integer.MIN_VALUE, Integer.MAX_VALUE}) {
            Check.same("town " + town, x.many(0, town), NONE);
        }
        Check.same("convents' too", x.many(99, NONE), 1);
    }

    private static void manyNowAndFar() {
        Check.sentence("MANY: behind n DAYS (the last of them)");
        NineCopies x = journey(98, 2);
        Check.same("not behind 98", x.many(98, 2), 0);
        Check.same("behind 99", x.many(99, 2), 1);
        x.days(60);
        x.days(38);
        Check.same("then not yet", x.many(0, NONE), 0);
        Check.same("then on the next", x.many(1, NONE), 1);
    }

    private static void overAtOnce() {
        Check.sentence("OVER: behind how many DAYS (0 ..) first");
        NineCopies x = Given.writer(1, 9);
        Check.same("at once", x.over(), 0);
        x.hand(0, 0);
        Check.same("when the last is cursed", x.over(), 11);
        x.days(10);
        Check.same("a day ahead of it", x.over(), 1);
        x.days(1);
        Check.same("then", x.over(), 0);
    }

    private static void overByTwoHundred() {
        Check.sentence("OVER: (.. 200); NONE if not by then.");
        NineCopies x = journey(199, 1);
        Check.same("the 200th day", x.over(), 200);
        NineCopies y = journey(200, 1);
        Check.same("the 201st day", y.over(), NONE);
        y.days(1);
        Check.same("a day later", y.over(), 200);
        NineCopies z = Given.people(1);
        z.version(1, 0);
        z.hand(0, 0);
        for (int i = 0; i < 166; i++) {
            z.days(60);
        }
        z.days(39);
        z.hand(0, 0);
        Check.same("on the last day", z.look(2), 9999);
        Check.same("over behind the last day", z.over(), 10);
    }

    private static void overButForConvents() {
        Check.sentence("no LETTER is on the WAY or in hands but those of convents");
        NineCopies x = new NineCopies();
        x.person(0, 2, 0);
        x.person(0, 0, 0);
        x.version(1, 0);
        Given.rules(x, 1, 20);
        x.hand(0, 0);
        Check.same("in a convent's hands", x.over(), 0);
        x.set(3, 1, 1);
        x.address(1, 0);
        x.hand(1, 0);
        x.days(1);
        Check.same("on the way to a convent", x.over(), 1);
        x.set(1, 0, 1);
        Check.same("in a burner's hands", x.over(), 20);
        x.set(1, 0, 0);
        x.set(5, 0, 1);
        Check.same("in a stopped one's hands", x.over(), 21);
        NineCopies y = Given.people(2);
        y.person(0, 2, 0);
        y.version(1, 0);
        y.hand(2, 0);
        Check.same("in the last one's, a convent's, hands", y.over(), 0);
        y.hand(1, 0);
        Check.same("in another's too", y.over(), 10);
    }

    private static void overWithFrost() {
        Check.sentence("(a) Without FROST; OVER: NONE if not by then.");
        NineCopies x = Given.writer(1, 1);
        x.set(9, 0, 1);
        Check.same("with nothing there", x.over(), 0);
        x.hand(0, 0);
        Check.same("it never comes", x.over(), NONE);
        x.set(3, 0, 0);
        Check.same("without paper it is cursed", x.over(), 10);
        Check.same("who is stopped posts none", x.stop(10), 0);
        x.set(3, 0, 1);
        Check.same("so he is to be stopped", x.stop(10), 1);
    }

    private static void stopByDays() {
        Check.sentence("STOP: make it OVER by n (0 .. 99) DAYS; NONE if one can't be");
        NineCopies x = Given.people(1);
        for (int n : new int[] {-1, 100, Integer.MIN_VALUE, Integer.MAX_VALUE}) {
            Check.same(n + " days", x.stop(n), NONE);
        }
        Check.same("over now", x.stop(0), 0);
        Check.same("over by the most days", x.stop(99), 0);
        x.version(1, 0);
        x.hand(0, 0);
        Check.same("over behind", x.over(), 10);
        Check.same("not now", x.stop(0), NONE);
        Check.same("a day short", x.stop(9), NONE);
        Check.same("by that day", x.stop(10), 0);
        Check.same("nobody is there", new NineCopies().stop(0), 0);
        Check.same("nobody is there for long", new NineCopies().stop(99), 0);
    }

    private static void stopOfFarDays() {
        Check.sentence("STOP: by n (.. 99) DAYS");
        NineCopies x = journey(98, 1);
        Check.same("over by 99", x.stop(99), 0);
        Check.same("by 98 whom it comes to first", x.stop(98), 1);
        NineCopies y = journey(99, 1);
        Check.same("over behind 100", y.over(), 100);
        Check.same("by 99 whom it comes to first", y.stop(99), 1);
    }

    /** So many have a letter each and write it out to one who holds it for long; some others do nothing. */
    private static NineCopies holders(int holders) {
        NineCopies x = Given.people(holders + 5);
        x.version(1, 0);
        Given.rules(x, 1, 3);
        for (int p = 0; p < holders; p++) {
            x.set(3, p, 1);
            x.address(p, holders);
            x.hand(p, 0);
        }
        x.set(7, 0, 20);
        return x;
    }

    private static void stopThreeAtMost() {
        Check.sentence("STOP: the fewest PEOPLE (3 at most); NONE if three are not enough");
        for (int count = 1; count <= 5; count++) {
            NineCopies x = holders(count);
            int all = (1 << count) - 1;
            Check.same("of " + count + " holders", x.stop(4), count <= 3 ? all : NONE);
            Check.same("nobody by the end", x.stop(22), 0);
            for (int p = 3; p < count; p++) {
                x.set(5, p, 1);
            }
            Check.same("with the others stopped, of " + count, x.stop(4), count < 3 ? all : 7);
            Check.same("nobody is stopped for it", x.of(0, 5), 0);
        }
    }

    private static void stopTheFewest() {
        Check.sentence("STOP: the fewest PEOPLE (ahead of a set that is less)");
        NineCopies x = Given.people(7);
        x.version(1, 0);
        Given.rules(x, 2, 1);
        for (int p = 0; p < 6; p++) {
            x.set(3, p, 9);
        }
        Check.tell(x, 0, "write 9;");
        Given.row(x, 5, 0, 1);
        x.address(0, 6);
        x.address(1, 6);
        x.hand(5, 0);
        Check.same("one of a high number", x.stop(3), 32);
        x.days(1);
        Check.same("when he wrote already, both of low ones", x.stop(2), 3);
    }

    private static void stopTheLeastSet() {
        Check.sentence("STOP: the least set");
        // Both {0, 3} and {1, 2} make it over: as sets 9 and 6.
        NineCopies x = Given.people(6);
        x.version(1, 0);
        Given.rules(x, 2, 1);
        Check.tell(x, 0, "write 9;");
        for (int p = 0; p < 4; p++) {
            x.set(3, p, 99);
        }
        Given.row(x, 0, 1, 2);
        Given.row(x, 3, 1, 2);
        Given.row(x, 1, 5);
        Given.row(x, 2, 5);
        x.hand(0, 0);
        x.hand(3, 0);
        Check.same("the least of two sets", x.stop(3), 6);
        Check.same("a day ahead the other", x.stop(2), 9);
        Check.same("nobody", x.stop(4), 0);
    }

    /** Rows of three: each first one would hold it for long, each next one is soon rid of it. */
    private static void stopToWhomItComes() {
        Check.sentence("STOP: the fewest PEOPLE that, STOPPED now, make it OVER (not whoever has it now)");
        int due = 0;
        for (int rows = 1; rows <= 4; rows++) {
            NineCopies x = Given.people(3 * rows);
            x.version(1, 0);
            Given.rules(x, 1, 20);
            for (int p = 0; p < 3 * rows; p++) {
                if (p % 3 < 2) {
                    x.set(3, p, 1);
                    x.address(p, p + 1);
                }
                if (p % 3 == 0) {
                    x.hand(p, 0);
                }
            }
            x.set(7, 0, 1);
            due |= 2 << 3 * (rows - 1);
            Check.same("nobody by four days, rows " + rows, x.stop(4), 0);
            Check.same("the next ones by three, rows " + rows, x.stop(3), rows <= 3 ? due : NONE);
            Check.same("not by two, rows " + rows, x.stop(2), NONE);
        }
    }

    private static void stopAllThereAre() {
        Check.sentence("STOP: PEOPLE (all there are)");
        for (int count = 2; count <= 4; count++) {
            NineCopies x = Given.ring(count, 1, 1, 1);
            Check.tell(x, 2, "post 0 to 0 in 5;");
            for (int p = 0; p < count; p++) {
                x.hand(p, 0);
            }
            Check.same("of " + count, x.stop(2), count <= 3 ? (1 << count) - 1 : NONE);
            Check.same("a day ahead of " + count, x.stop(1), NONE);
        }
    }

    private static void stopAmongFew() {
        Check.sentence("STOP: 3 at most (of as many as there are)");
        for (int count = 1; count <= 3; count++) {
            NineCopies x = Given.people(count);
            x.version(1, 0);
            x.set(7, 0, 1);
            for (int p = 0; p < count; p++) {
                x.hand(p, 0);
            }
            Check.same("nobody helps " + count, x.stop(1), NONE);
            Check.same("nor needs to, " + count, x.stop(2), 0);
        }
        NineCopies y = new NineCopies();
        Check.same("nobody there, nothing on the way", y.stop(0), 0);
        // Something on the way to one who can't write: nobody helps.
        NineCopies z = journey(20, 0);
        z.days(1);
        Check.same("on the way", z.stop(20), NONE);
        Check.same("it is cursed by then", z.stop(21), 0);
    }

    private static void stopOfTheLast() {
        Check.sentence("STOP: PEOPLE 0 .. 15");
        NineCopies x = Given.people(16);
        x.version(1, 0);
        Given.rules(x, 1, 3);
        for (int p = 13; p < 16; p++) {
            x.set(3, p, 1);
            x.address(p, 0);
            x.hand(p, 0);
        }
        x.set(7, 0, 20);
        Check.same("the last three", x.stop(4), 7 << 13);
        x.set(3, 13, 0);
        Check.same("the last two", x.stop(4), 3 << 14);
        x.set(3, 14, 0);
        Check.same("the last", x.stop(4), 1 << 15);
        x.set(3, 15, 0);
        Check.same("nobody", x.stop(4), 0);
    }

    private static void reachOfSomeSteps() {
        Check.sentence("REACH: to whom one comes from him by ROWS (some steps; he himself, if it comes back)");
        NineCopies x = Given.people(16);
        Check.same("without a row not even himself", x.reach(0), 0);
        for (int p = 0; p < 15; p++) {
            x.address(p, p + 1);
        }
        Check.same("fifteen steps", x.reach(0), 0xfffe);
        Check.same("one step", x.reach(14), 1 << 15);
        Check.same("from the last", x.reach(15), 0);
        x.address(15, 0);
        Check.same("sixteen steps to himself", x.reach(0), 0xffff);
        Check.same("from the last to himself", x.reach(15), 0xffff);
    }

    private static void reachOfWhomeverHeIs() {
        Check.sentence("going on only from those who are plain and not STOPPED (he himself whatever he is)");
        for (int kind = 0; kind < 3; kind++) {
            for (int stopped = 0; stopped < 2; stopped++) {
                NineCopies x = Given.people(4);
                x.address(0, 1);
                x.address(1, 2);
                x.address(2, 0);
                x.set(1, 1, kind);
                x.set(5, 1, stopped);
                boolean on = kind == 0 && stopped == 0;
                Check.same("over him", x.reach(0), on ? 7 : 2);
                Check.same("from him", x.reach(1), 7);
                Check.same("to him, not on", x.reach(2), on ? 7 : 3);
                Check.same("round over him", x.circle(0), on ? 3 : NONE);
                Check.same("round from him", x.circle(1), 3);
                Check.same("sources over him", x.sources(4, 15), on ? 7 : 6);
                Check.same("his sources", x.sources(2, 15), 7);
            }
        }
    }

    private static void reachOfNobody() {
        Check.sentence("23: NONE if there is none such. 25: or there is none such.");
        NineCopies x = Given.ring(2, 1, 1, 1);
        for (int person : new int[] {-1, 2, 16, Integer.MIN_VALUE, Integer.MAX_VALUE}) {
            Check.same("reach of " + person, x.reach(person), NONE);
            Check.same("circle of " + person, x.circle(person), NONE);
        }
        Check.same("reach of the first", x.reach(0), 3);
        Check.same("reach of the last", x.reach(1), 3);
        Check.same("circle of the last", x.circle(1), 2);
    }

    private static void sourcesByStepsAtMost() {
        Check.sentence("SOURCES of a set of PEOPLE and d (1 .. 15): by d steps at most; NONE if one can't be");
        NineCopies x = Given.ring(16, 1, 1, 1);
        for (int d : new int[] {0, -1, 16, Integer.MIN_VALUE, Integer.MAX_VALUE}) {
            Check.same(d + " steps", x.sources(1, d), NONE);
        }
        Check.same("one step", x.sources(1, 1), 1 << 15 | 1);
        Check.same("two steps", x.sources(1, 2), 3 << 14 | 1);
        Check.same("fourteen steps", x.sources(1, 14), 0xfffd);
        Check.same("fifteen steps", x.sources(1, 15), 0xffff);
    }

    private static void sourcesOfASet() {
        Check.sentence("24: NONE if one can't be (an empty set)");
        NineCopies x = Given.ring(3, 1, 1, 1);
        for (int set : new int[] {0, -1, 8, 9, 1 << 16, Integer.MIN_VALUE, Integer.MAX_VALUE}) {
            Check.same("set " + set, x.sources(set, 1), NONE);
        }
        Check.same("the least", x.sources(1, 1), 5);
        Check.same("the most", x.sources(7, 2), 7);
        Check.same("all by one step", x.sources(7, 1), 0);
        NineCopies y = Given.people(16);
        y.address(15, 0);
        Check.same("the last of sixteen", y.sources(1 << 15, 1), 1 << 15);
        Check.same("by the last of sixteen", y.sources(1, 1), 1 << 15 | 1);
        Check.same("all of sixteen", y.sources(0xffff, 15), 0);
        Check.same("a seventeenth", y.sources(0x10000, 15), NONE);
        Check.same("of nobody there", new NineCopies().sources(1, 15), NONE);
    }

    private static void sourcesButHimself() {
        Check.sentence("SOURCES: to each of the set (but himself)");
        NineCopies x = Given.people(4);
        x.address(0, 1);
        x.address(1, 2);
        Check.same("he need not come to himself", x.sources(2, 15), 3);
        Check.same("but to the other", x.sources(6, 15), 3);
        Check.same("one comes to no other", x.sources(12, 15), 0);
        Check.same("he alone", x.sources(8, 15), 8);
        Check.same("by one step to both", x.sources(6, 1), 2);
        Check.same("a stopped one need not either", x.set(5, 1, 1) ? x.sources(2, 15) : NONE, 3);
    }

    private static void sourcesOverPlainOnes() {
        Check.sentence("SOURCES: from whom one comes so (going on only from those who are plain and not STOPPED)");
        NineCopies x = Given.people(4);
        for (int p = 0; p < 3; p++) {
            x.address(p, p + 1);
        }
        Check.same("over all", x.sources(8, 3), 15);
        Check.same("by two steps", x.sources(8, 2), 14);
        x.set(5, 2, 1);
        Check.same("not over a stopped one, but from him", x.sources(8, 3), 12);
        x.set(5, 2, 0);
        x.set(1, 1, 2);
        Check.same("not over a convent, but from it", x.sources(8, 3), 14);
        x.set(1, 1, 1);
        Check.same("not over a burner, but from him", x.sources(8, 3), 14);
    }

    private static void circleOfFewestSteps() {
        Check.sentence("CIRCLE of a PERSON: the fewest steps by which one comes back to him so.");
        for (int count = 2; count <= 16; count++) {
            NineCopies x = Given.ring(count, 1, 1, 1);
            Check.same("round " + count, x.circle(0), count);
            Check.same("from the last of " + count, x.circle(count - 1), count);
            if (count > 2) {
                x.address(1, 0);
                Check.same("a shorter one", x.circle(0), 2);
                Check.same("not of the last", x.circle(count - 1), count);
            }
        }
    }

    private static void circleThatDoesNotComeBack() {
        Check.sentence("25: NONE if it does not come back");
        NineCopies x = Given.people(3);
        Check.same("without a row", x.circle(0), NONE);
        x.address(0, 1);
        Check.same("only there", x.circle(0), NONE);
        x.address(1, 2);
        x.address(2, 1);
        Check.same("not to him", x.circle(0), NONE);
        Check.same("but to him behind him", x.circle(1), 2);
        x.set(1, 1, 1);
        Check.same("from a burner", x.circle(1), 2);
        Check.same("not over a burner", x.circle(2), NONE);
    }

    private static void eightPicked() {
        Check.sentence("PICKED: up to 8; NONE if there are eight");
        NineCopies x = new NineCopies();
        for (int v = 0; v < 10; v++) {
            x.version(0, 0);
        }
        for (int i = 1; i <= 8; i++) {
            Check.same("how many", x.pick(10 - i), i);
            Check.same("as many", x.look(14), i);
        }
        Check.same("the ninth", x.pick(1), NONE);
        Check.same("eight are", x.look(14), 8);
        Check.same("one of them again", x.pick(9), NONE);
    }

    private static void pickedAreUnlike() {
        Check.sentence("PICKED: unlike VERSIONS; NONE if one can't be (it is already)");
        NineCopies x = new NineCopies();
        Check.same("none is there", x.pick(0), NONE);
        x.version(3, 7);
        x.version(3, 7);
        for (int v : new int[] {-2, 2, 40, Integer.MIN_VALUE, Integer.MAX_VALUE}) {
            Check.same("version " + v, x.pick(v), NONE);
        }
        Check.same("none is", x.look(14), 0);
        Check.same("the last", x.pick(1), 1);
        Check.same("again", x.pick(1), NONE);
        Check.same("one is", x.look(14), 1);
        Check.same("another that is like it but for its number", x.pick(0), 2);
        Check.same("the first again", x.pick(0), NONE);
    }

    private static void noneIsPickedThen() {
        Check.sentence("26: (NONE: none is then)");
        NineCopies x = new NineCopies();
        Check.same("none at first", x.look(14), 0);
        Check.same("of none", x.pick(NONE), 0);
        for (int v = 0; v < 8; v++) {
            x.pick(x.version(0, v));
        }
        Check.same("of eight", x.pick(NONE), 0);
        Check.same("none is", x.look(14), 0);
        Check.same("join of none", x.join(), 0);
        Check.same("one that was", x.pick(7), 1);
    }

    private static void joinOfFewerThanTwo() {
        Check.sentence("JOIN: (0 for fewer than two)");
        NineCopies x = new NineCopies();
        Check.same("none there", x.join(), 0);
        x.version(0, 1023);
        x.version(0, 0);
        Check.same("none", x.join(), 0);
        x.pick(0);
        Check.same("one", x.join(), 0);
        x.pick(1);
        Check.same("two", x.join(), 10);
        x.pick(NONE);
        x.pick(1);
        Check.same("one again", x.join(), 0);
    }

    private static void joinOfAllTrees() {
        Check.sentence("JOIN: the least number of MARKS in which neighbours differ, added, of all trees of PICKED ones");
        NineCopies x = new NineCopies();
        int[] marks = {0, 1023, 1023, 1, 3, 7, 512, 0};
        int[] due = {0, 10, 10, 10, 10, 10, 11, 11};
        for (int v = 0; v < 8; v++) {
            x.pick(x.version(0, marks[v]));
            Check.same("join of " + (v + 1), x.join(), due[v]);
        }
        // A star in the middle, which may not be in the tree as it is not picked.
        NineCopies y = new NineCopies();
        for (int m : new int[] {1, 2, 4, 0}) {
            y.version(0, m);
        }
        y.pick(0);
        y.pick(1);
        y.pick(2);
        Check.same("without the middle", y.join(), 4);
        y.pick(3);
        Check.same("with it", y.join(), 3);
    }

    /** 0 and 1 are told; 2 and 3 come of 0, 4 and 5 of 2, 6 and 7 of 3. */
    private static NineCopies family() {
        NineCopies x = Given.people(4);
        x.version(1, 0);
        x.version(1, 0);
        Given.rules(x, 2, 9);
        x.set(8, 0, 1000);
        for (int p = 0; p < 3; p++) {
            x.set(3, p, 9);
        }
        Check.tell(x, 0, "write 9;");
        Given.row(x, 0, 1, 2);
        x.address(1, 3);
        x.address(2, 3);
        x.hand(0, 0);
        x.days(2);
        int[] of = {NONE, NONE, 0, 0, 2, 2, 3, 3};
        for (int v = 0; v < 8; v++) {
            Check.same("of which " + v, x.kind(v, 2), of[v]);
        }
        Check.same("no more", x.look(1), 8);
        return x;
    }

    private static void forebearIsTheYoungest() {
        Check.sentence("FOREBEAR of two VERSIONS: the youngest of which both came (or one itself)");
        NineCopies x = family();
        int[][] due = {{4, 5, 2}, {6, 7, 3}, {4, 6, 0}, {4, 2, 2}, {2, 3, 0}, {7, 0, 0}, {7, 2, 0}, {4, 4, 4}, {0, 0, 0},
            {1, 1, 1}, {4, 3, 0}, {7, 3, 3}};
        for (int[] one : due) {
            Check.same("of " + one[0] + " and " + one[1], x.forebear(one[0], one[1]), one[2]);
            Check.same("of " + one[1] + " and " + one[0], x.forebear(one[1], one[0]), one[2]);
        }
    }

    private static void forebearOfNone() {
        Check.sentence("28: NONE if there is none such.");
        NineCopies x = family();
        for (int v = 0; v < 8; v++) {
            Check.same("a stranger's", x.forebear(1, v), v == 1 ? 1 : NONE);
            Check.same("of a stranger", x.forebear(v, 1), v == 1 ? 1 : NONE);
        }
        for (int v : new int[] {-1, 8, 40, Integer.MIN_VALUE, Integer.MAX_VALUE}) {
            Check.same("of " + v, x.forebear(v, 0), NONE);
            Check.same("and " + v, x.forebear(7, v), NONE);
            Check.same("twice " + v, x.forebear(v, v), NONE);
        }
    }

    private static void childrenStraightOrNot() {
        Check.sentence("CHILDREN of a VERSION: how many came of it, straight or not.");
        NineCopies x = family();
        int[] due = {6, 0, 2, 2, 0, 0, 0, 0};
        for (int v = 0; v < 8; v++) {
            Check.same("of " + v, x.kind(v, 4), due[v]);
        }
        NineCopies y = Given.ring(3, 1, 20, 99);
        y.set(8, 0, 1000);
        y.hand(0, 0);
        y.days(3);
        Check.same("of the first of a row", y.kind(0, 4), 3);
        Check.same("of the last of a row", y.kind(3, 4), 0);
    }

    private static void lastsTheLeastOfSeveral() {
        Check.sentence("LASTS: the CURSE that most LETTERS in hands have, of several the least.");
        NineCopies x = Given.people(4);
        x.version(9, 0);
        x.version(0, 0);
        x.version(9, 1);
        x.version(4, 1);
        x.hand(0, 0);
        Check.same("one", x.lasts(0), 9);
        x.hand(0, 3);
        Check.same("of two the least", x.lasts(0), 4);
        x.hand(1, 1);
        Check.same("of three the least", x.lasts(0), 0);
        x.hand(1, 2);
        Check.same("the most, of two versions", x.lasts(0), 9);
        x.hand(2, 3);
        Check.same("of both the least", x.lasts(0), 4);
        x.hand(2, 1);
        Check.same("of all the least", x.lasts(0), 0);
        x.hand(3, 0);
        Check.same("the most again", x.lasts(0), 9);
    }

    private static void lastsWithoutLetters() {
        Check.sentence("29: NONE without LETTERS in hands then");
        NineCopies x = Given.writer(1, 1);
        Check.same("none at all", x.lasts(0), NONE);
        x.hand(0, 0);
        Check.same("in hands", x.lasts(0), 5);
        Check.same("on the way alone", x.lasts(1), NONE);
        Check.same("in hands again", x.lasts(2), 5);
        x.days(1);
        Check.same("on the way now", x.lasts(0), NONE);
        x.set(1, 1, 2);
        Check.same("in a convent's hands", x.lasts(99), 5);
        x.set(1, 1, 1);
        Check.same("burnt", x.lasts(99), NONE);
    }

    private static void lastsBehindDays() {
        Check.sentence("LASTS behind n (0 .. 99) DAYS; NONE if one can't be");
        NineCopies x = journey(98, 2);
        for (int n : new int[] {-1, 100, Integer.MIN_VALUE, Integer.MAX_VALUE}) {
            Check.same(n + " days", x.lasts(n), NONE);
        }
        Check.same("now", x.lasts(0), 5);
        Check.same("behind 98", x.lasts(98), NONE);
        Check.same("behind 99", x.lasts(99), 5);
    }

    private static void knowsAtLeast() {
        Check.sentence("KNOWS k: PEOPLE who HAD k VERSIONS at least.");
        NineCopies x = Given.people(16);
        for (int v = 0; v < 3; v++) {
            x.version(0, 0);
            x.hand(15, v);
            if (v > 0) {
                x.hand(3, v);
            }
        }
        x.hand(0, 2);
        Check.same("none at least", x.knows(0), 0xffff);
        Check.same("one", x.knows(1), 1 << 15 | 9);
        Check.same("two", x.knows(2), 1 << 15 | 8);
        Check.same("three", x.knows(3), 1 << 15);
        Check.same("four", x.knows(4), 0);
    }

    private static void knowsOfNoneAndForty() {
        Check.sentence("KNOWS k (0 .. 40); NONE if one can't be.");
        NineCopies x = Given.people(2);
        for (int v = 0; v < 40; v++) {
            x.version(0, 0);
            x.hand(1, v);
            x.burn(1, 0);
            if (v == 38) {
                Check.same("thirty-nine", x.knows(39), 2);
                Check.same("not forty", x.knows(40), 0);
            }
        }
        Check.same("forty", x.knows(40), 2);
        Check.same("all", x.knows(0), 3);
        for (int k : new int[] {-1, 41, Integer.MIN_VALUE, Integer.MAX_VALUE}) {
            Check.same(k + " of them", x.knows(k), NONE);
        }
        Check.same("nobody there", new NineCopies().knows(0), 0);
    }
}
