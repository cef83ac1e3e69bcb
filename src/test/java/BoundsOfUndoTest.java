/** The boundary cases of UNDO and THE IMAGE, a sentence a test: promises 31 and 32. */
public final class BoundsOfUndoTest {
    private static final int NONE = NineCopies.NONE;

    public static void main(String[] args) {
        nothingToUndo();
        latestActGoesBack();
        latestDayGoesBack();
        allOfItGoesBack();
        sixAreKept();
        eachOfManyDays();
        notUndoneYet();
        versionsAreThereNoMore();
        nobodyPicksThemAnyMore();
        whateverElseForgets();
        whatIsRefusedForgetsNothing();
        textsAndPickedForgetNothing();
        whatIsAskedForgetsNothing();
        textsAndPickedStay();
        noImage();
        moreThanOnce();
        asItWasWhenItWasTaken();
        allThatIs();
        nobodyStaysBehind();
        theBookAsItWas();
        butTheTapeAndTheFault();
        butWhatCanBeUndone();
        takenAnew();
        Check.finish("BoundsOfUndoTest");
    }

    private static NineCopies one() {
        NineCopies x = Given.people(2);
        x.version(3, 0);
        x.version(4, 0);
        return x;
    }

    private static void nothingToUndo() {
        Check.sentence("31: true; false if there is nothing.");
        NineCopies x = one();
        Check.no("nothing yet", x.undo());
        Check.same("nothing can be", x.look(13), 0);
        x.hand(0, 0);
        Check.same("one can be", x.look(13), 1);
        Check.yes("one", x.undo());
        Check.no("no more", x.undo());
        Check.same("the version stays", x.look(1), 2);
        Check.same("the people stay", x.look(0), 2);
    }

    private static void latestActGoesBack() {
        Check.sentence("UNDO: the latest ACT goes back (a HAND, a BURN)");
        NineCopies x = one();
        x.hand(0, 0);
        x.hand(0, 1);
        x.burn(0, 0);
        Check.same("burnt", x.letter(0, 0, 0), 1);
        x.undo();
        Check.same("the first is back in its place", x.letter(0, 0, 0), 0);
        Check.same("the second behind it", x.letter(0, 1, 0), 1);
        x.undo();
        Check.same("the second is not handed", x.of(0, 6), 1);
        Check.same("nor had", x.of(0, 9), 1);
        x.undo();
        Check.same("nor the first", x.of(0, 6), 0);
        Check.same("nor had either", x.kind(0, 6), 0);
    }

    private static void latestDayGoesBack() {
        Check.sentence("UNDO: the latest DAY goes back");
        NineCopies x = Given.people(1);
        x.days(3);
        for (int day = 2; day >= 0; day--) {
            Check.yes("a day", x.undo());
            Check.same("the day", x.look(2), day);
            Check.same("what can be", x.look(13), day);
        }
        Check.no("no more", x.undo());
    }

    private static void allOfItGoesBack() {
        Check.sentence("UNDO: goes back (all of it)");
        for (int days = 1; days <= 3; days++) {
            NineCopies x = Given.lively();
            x.days(days);
            x.burn(3, 0);
            Check.yes("the burning", x.undo());
            for (int i = 0; i < days; i++) {
                Check.yes("a day", x.undo());
            }
            int[] due = Given.seen(Given.lively());
            int[] got = Given.seen(x);
            // Six acts and days were ahead of them, of which as many were pushed out.
            Check.same("what can be undone", got[13], 6 - days - 1);
            due[13] = got[13];
            Check.all("all as it was behind " + days, got, due);
        }
    }

    private static void sixAreKept() {
        Check.sentence("UNDO: 6 are kept");
        for (int acts = 5; acts <= 8; acts++) {
            NineCopies x = one();
            for (int i = 0; i < acts; i++) {
                if (i % 3 == 2) {
                    x.days(1);
                } else if (i % 3 == 1) {
                    x.burn(0, 0);
                } else {
                    x.hand(0, i % 2);
                }
                Check.same("what can be", x.look(13), Math.min(6, i + 1));
            }
            for (int i = Math.min(6, acts); i > 0; i--) {
                Check.same("what can be yet", x.look(13), i);
                Check.yes("one of six", x.undo());
            }
            Check.no("no more of " + acts, x.undo());
            Check.same("the letters of " + acts, x.of(0, 6), acts == 7 ? 1 : 0);
            Check.same("the day of " + acts, x.look(2), 0);
            Check.same("had of " + acts, x.of(0, 9), acts > 6 ? 1 : 0);
        }
    }

    private static void eachOfManyDays() {
        Check.sentence("UNDO: the latest DAY (each of DAYS that go by); 6 are kept");
        for (int days : new int[] {5, 6, 7, 60}) {
            NineCopies x = one();
            x.hand(0, 0);
            x.days(days);
            int kept = Math.min(6, days + 1);
            Check.same("what can be behind " + days, x.look(13), kept);
            for (int i = 0; i < kept; i++) {
                Check.yes("one of them", x.undo());
            }
            Check.no("no more", x.undo());
            Check.same("the day", x.look(2), Math.max(0, days - 6));
            // With five days its handing goes back too; behind sixty it was cursed long ago.
            Check.same("the letter", x.of(0, 6), days == 5 || days == 60 ? 0 : 1);
        }
    }

    private static void notUndoneYet() {
        Check.sentence("UNDO: the latest ACT or DAY not undone yet");
        NineCopies x = one();
        x.hand(0, 0);
        x.hand(0, 1);
        x.undo();
        x.hand(1, 1);
        Check.same("two can be", x.look(13), 2);
        x.undo();
        Check.same("the latest", x.of(1, 6), 0);
        Check.same("not that which was undone", x.of(0, 6), 1);
        x.undo();
        Check.same("then the first", x.of(0, 6), 0);
        Check.no("no more", x.undo());
        for (int i = 0; i < 6; i++) {
            x.days(1);
        }
        x.undo();
        x.undo();
        x.days(4);
        Check.same("six again", x.look(13), 6);
        for (int day = 7; day >= 2; day--) {
            x.undo();
            Check.same("the day", x.look(2), day);
        }
        Check.no("the first two are kept no more", x.undo());
    }

    /** One who writes two copies a day, each with a blot. */
    private static NineCopies blotter() {
        NineCopies x = Given.people(2);
        x.version(3, 0);
        x.version(3, 1);
        x.set(3, 0, 99);
        x.set(8, 0, 1000);
        x.address(0, 1);
        Check.tell(x, 0, "write 2;");
        x.hand(0, 0);
        return x;
    }

    private static void versionsAreThereNoMore() {
        Check.sentence("VERSIONS that came by it are there no more");
        NineCopies x = blotter();
        x.days(1);
        Check.same("two came", x.look(1), 4);
        int marks = x.kind(3, 1);
        x.undo();
        Check.same("they are gone", x.look(1), 2);
        Check.same("the first of them", x.kind(2, 0), NONE - 1);
        Check.same("no children", x.kind(0, 4), 0);
        Check.same("no forebear", x.forebear(2, 0), NONE);
        Check.same("none to pick", x.pick(2), NONE);
        Check.no("none to hand", x.hand(1, 2));
        Check.same("those told stay", x.kind(1, 1), 1);
        Check.same("the state too goes back", x.look(6), 0);
        x.days(1);
        Check.same("so the same come again", x.kind(3, 1), marks);
        Check.same("as many", x.look(1), 4);
        NineCopies y = blotter();
        for (int v = 2; v < 40; v++) {
            y.version(1, v);
        }
        Check.same("forty", y.version(1, 1), NONE);
        y.days(1);
        y.undo();
        Check.same("forty stay", y.look(1), 40);
    }

    private static void nobodyPicksThemAnyMore() {
        Check.sentence("nor PICKED; the others PICKED stay in their order");
        NineCopies x = blotter();
        x.days(1);
        x.pick(3);
        x.pick(1);
        x.pick(2);
        x.pick(0);
        Check.same("four are", x.look(14), 4);
        x.undo();
        Check.same("two stay", x.look(14), 2);
        Check.same("the one", x.pick(1), NONE);
        Check.same("the other", x.pick(0), NONE);
        Check.same("their join", x.join(), 1);
        x.days(1);
        Check.same("what comes anew is not", x.look(14), 2);
        Check.same("it can be", x.pick(3), 3);
        x.undo();
        x.undo();
        Check.same("the hand takes none with it", x.look(14), 2);
        x.pick(NONE);
        Check.same("none is", x.look(14), 0);
    }

    private static void whateverElseForgets() {
        Check.sentence("whatever else is told forgets them");
        String[] what = {"state", "state as it is", "person", "set of a person", "set as it is", "set of all", "set frost",
            "address", "no address", "no address of an empty row", "version", "image gone back to"};
        for (int i = 0; i < what.length; i++) {
            NineCopies x = one();
            x.address(0, 1);
            x.image(true);
            x.hand(0, 0);
            x.days(2);
            Check.same("three can be", x.look(13), 3);
            switch (i) {
                case 0: x.state(5); break;
                case 1: x.state(0); break;
                case 2: x.person(0, 0, 0); break;
                case 3: x.set(3, 1, 7); break;
                case 4: x.set(0, 1, 0); break;
                case 5: x.set(6, 0, 3); break;
                case 6: x.set(9, 0, 1); break;
                case 7: x.address(1, 0); break;
                case 8: x.address(0, NONE); break;
                case 9: x.address(1, NONE); break;
                case 10: x.version(1, 1); break;
                default: x.image(false); break;
            }
            Check.same("none can be behind " + what[i], x.look(13), 0);
            Check.no("none is behind " + what[i], x.undo());
            x.days(1);
            Check.same("what is done then can be", x.look(13), 1);
        }
    }

    private static void whatIsRefusedForgetsNothing() {
        Check.sentence("whatever else is told (what can't be is not) forgets them");
        NineCopies x = one();
        x.hand(0, 0);
        Check.same("person", x.person(6, 0, 0), NONE);
        Check.no("set", x.set(0, 0, 6));
        Check.no("set of nobody", x.set(0, 2, 0));
        Check.no("another what", x.set(10, 0, 0));
        Check.same("address", x.address(0, 0), NONE);
        Check.same("version", x.version(10, 0), NONE);
        Check.no("hand", x.hand(0, 2));
        Check.no("burn", x.burn(0, 1));
        Check.same("days", x.days(61), NONE);
        Check.no("image", x.image(false));
        Check.same("one can be", x.look(13), 1);
        Check.yes("one is", x.undo());
        NineCopies y = new NineCopies();
        for (int p = 0; p < 16; p++) {
            y.person(0, 0, 0);
        }
        for (int v = 0; v < 40; v++) {
            y.version(0, 0);
        }
        for (int i = 0; i < 9; i++) {
            y.address(0, 1);
        }
        y.days(1);
        Check.same("a seventeenth", y.person(0, 0, 0), NONE);
        Check.same("a forty-first", y.version(0, 0), NONE);
        Check.same("a tenth", y.address(0, 1), NONE);
        Check.same("one can be all the same", y.look(13), 1);
    }

    private static void textsAndPickedForgetNothing() {
        Check.sentence("whatever else is told but texts, PICKED (the taking of THE IMAGE does not) forgets them");
        NineCopies x = one();
        x.hand(0, 0);
        Check.lines(x, 0, "write 2;", 1);
        Check.same("behind hands", x.look(13), 1);
        Check.lines(x, 1, "ill 2;", 1);
        Check.same("behind luck", x.look(13), 1);
        Check.lines(x, 2, "post 0 to 1 in 2;", 1);
        Check.same("behind the post", x.look(13), 1);
        Check.faulty(x, 2, "post", 1, 4);
        x.text(3);
        Check.same("behind a fault", x.look(13), 1);
        x.pick(0);
        x.pick(NONE);
        Check.same("behind picked ones", x.look(13), 1);
        Check.yes("an image", x.image(true));
        Check.same("behind the image", x.look(13), 1);
        Check.yes("it goes back", x.undo());
        Check.same("no letter", x.of(0, 6), 0);
    }

    private static void whatIsAskedForgetsNothing() {
        Check.sentence("UNDO: whatever is told (not what is asked) forgets them");
        NineCopies x = Given.lively();
        int can = x.look(13);
        Given.seen(x);
        x.many(3, NONE);
        x.over();
        x.stop(2);
        x.reach(0);
        x.sources(1, 1);
        x.circle(0);
        x.forebear(0, 1);
        x.lasts(3);
        x.knows(1);
        x.fault(0);
        Check.same("as many", x.look(13), can);
        for (int i = 0; i < can; i++) {
            Check.yes("each", x.undo());
        }
        Check.no("no more", x.undo());
    }

    private static void textsAndPickedStay() {
        Check.sentence("UNDO: the latest ACT or DAY goes back (texts and PICKED do not)");
        NineCopies x = one();
        x.days(1);
        Check.lines(x, 0, "write 2;", 1);
        Check.lines(x, 1, "ill 2;", 1);
        Check.lines(x, 2, "post 0 to 1 in 2;", 1);
        x.pick(1);
        x.undo();
        for (int what = 10; what <= 12; what++) {
            Check.same("lines", x.look(what), 1);
        }
        Check.same("picked", x.look(14), 1);
        Check.same("the day", x.look(2), 0);
        Check.same("the post", x.post(1, 0), 2);
    }

    private static void noImage() {
        Check.sentence("32: gone back to (false): true; false if there is none.");
        NineCopies x = Given.lively();
        int[] due = Given.seen(x);
        Check.no("none", x.image(false));
        Check.no("none still", x.image(false));
        NineCopies y = Given.lively();
        y.image(false);
        Check.all("nothing is changed", Given.seen(y), due);
        Check.yes("taken", y.image(true));
        Check.yes("there is one", y.image(false));
    }

    private static void moreThanOnce() {
        Check.sentence("THE IMAGE: gone back to it may be more than once");
        NineCopies x = one();
        x.days(4);
        x.image(true);
        for (int i = 1; i <= 3; i++) {
            x.days(i);
            x.hand(0, 0);
            x.version(5, 5);
            Check.yes("gone back to", x.image(false));
            Check.same("the day", x.look(2), 4);
            Check.same("the letters", x.look(4), 0);
            Check.same("the versions", x.look(1), 2);
        }
        Check.yes("at once again", x.image(false));
        Check.same("the day again", x.look(2), 4);
    }

    private static void asItWasWhenItWasTaken() {
        Check.sentence("THE IMAGE: as it was when it was taken");
        for (int what = 0; what < 3; what++) {
            NineCopies x = Given.lively();
            x.image(true);
            if (what == 0) {
                x.days(9);
                x.set(3, 0, 1);
                x.address(1, NONE);
            } else if (what == 1) {
                x.undo();
                x.undo();
                x.undo();
                x.undo();
                x.state(99);
                x.days(4);
                x.version(1, 900);
            } else {
                x.person(1, 1, 1);
                x.version(1, 1);
                x.pick(NONE);
                x.state(1);
                x.set(6, 0, 1);
                x.set(7, 0, 1);
                x.set(8, 0, 1);
                x.set(9, 0, 1);
            }
            x.image(false);
            int[] due = Given.seen(Given.lively());
            due[13] = 0;
            Check.all("all as it was behind " + what, Given.seen(x), due);
        }
    }

    private static void allThatIs() {
        Check.sentence("THE IMAGE: all that is and was told (texts and PICKED too)");
        NineCopies x = one();
        x.hand(0, 0);
        Check.lines(x, 0, "write 2;write 3;", 2);
        Check.lines(x, 1, "ill 200;", 1);
        Check.lines(x, 2, "post 0 to 0 in 3;post 0 to 1 in 2;post 1 to 1 in 7;", 3);
        x.pick(1);
        x.image(true);
        Check.lines(x, 0, "write 4;", 1);
        Check.lines(x, 1, "", 0);
        Check.lines(x, 2, "post 1 to 1 in 8;", 1);
        x.pick(NONE);
        x.pick(0);
        x.image(false);
        Check.same("lines of hands", x.look(10), 2);
        Check.same("lines of luck", x.look(11), 1);
        Check.same("lines of the post", x.look(12), 3);
        Check.same("hands", x.letter(0, 0, 4), 2);
        Check.same("luck", x.letter(0, 0, 5), 200);
        Check.same("the post", x.post(1, 1), 7);
        Check.same("the post of two", x.post(1, 0), 2);
        Check.same("picked", x.look(14), 1);
        Check.same("the one", x.pick(1), NONE);
        Check.same("not the other", x.pick(0), 2);
    }

    private static void nobodyStaysBehind() {
        Check.sentence("THE IMAGE: as it was (who came behind it is there no more)");
        NineCopies x = one();
        x.image(true);
        x.person(4, 0, 9);
        x.set(3, 2, 9);
        x.set(4, 2, 9);
        x.address(2, 0);
        x.address(2, 1);
        x.hand(2, 0);
        x.days(1);
        x.set(5, 2, 1);
        x.hand(2, 1);
        x.image(false);
        Check.same("two are there", x.look(0), 2);
        Check.same("he is not", x.of(2, 0), NONE);
        Check.same("nor his letters", x.look(4), 0);
        Check.same("nor those that he wrote", x.look(3), 0);
        Check.same("of many", x.many(0, NONE), 0);
        Check.same("over", x.over(), 0);
        Check.same("which curse lasts", x.lasts(0), NONE);
        Check.same("letters of it", x.kind(0, 5), 0);
        Check.same("had", x.kind(0, 6), 0);
        Check.same("who knows none", x.knows(0), 3);
        Check.same("his reach", x.reach(2), NONE);
        Check.same("his sources", x.sources(4, 1), NONE);
        Check.no("his hands", x.hand(2, 0));
        Check.same("his address", x.address(0, 2), NONE);
        Check.same("another in his place", x.person(1, 2, 5), 2);
        int[] due = {1, 2, 5, 0, 0, 0, 0, 0, 0, 0, 0};
        for (int what = 0; what <= 10; what++) {
            Check.same("nothing of him, what " + what, x.of(2, what), due[what]);
        }
        Check.same("no letter of his", x.letter(2, 0, 0), NONE - 1);
        Check.same("no address of his", x.of(2, 20), NONE);
    }

    private static void theBookAsItWas() {
        Check.sentence("THE IMAGE: as it was (THE BOOK and the WAY too)");
        NineCopies x = Given.people(4);
        x.person(0, 1, 0);
        x.version(3, 0);
        x.version(4, 0);
        Given.rules(x, 2, 9);
        for (int p = 0; p < 4; p++) {
            x.set(3, p, 9);
        }
        x.address(0, 1);
        x.address(2, 4);
        Check.tell(x, 0, "write 9;");
        x.hand(0, 0);
        x.days(2);
        x.hand(0, 0);
        x.days(1);
        x.image(true);
        for (int i = 0; i < 5; i++) {
            Check.yes("undone", x.undo());
        }
        Check.same("no line", x.look(5), 0);
        Check.same("none on the way", x.look(3), 0);
        x.days(1);
        x.hand(2, 1);
        x.days(3);
        x.hand(2, 1);
        x.days(1);
        Check.same("another line", x.book(0, 4), 1);
        Check.same("another on the way", x.onWay(0, 2), 4);
        x.image(false);
        int[] line = {1, 0, 0, 1, 0};
        int[] way = {0, 0, 1, 3};
        for (int i = 0; i < 2; i++) {
            for (int what = 0; what < 5; what++) {
                Check.same("line " + i + " what " + what, x.book(i, what), line[what]);
            }
            for (int what = 0; what < 4; what++) {
                Check.same("on the way " + i + " what " + what, x.onWay(i, what), way[what]);
            }
        }
        Check.same("no more lines", x.look(5), 2);
        Check.same("no more on the way", x.look(3), 2);
    }

    private static void butTheTapeAndTheFault() {
        Check.sentence("THE IMAGE: all but the TAPE, fault()");
        NineCopies x = one();
        Check.faulty(x, 0, "write", 1, 5);
        Check.tape(x, "write 1;");
        x.image(true);
        Check.faulty(x, 2, "post 6", 2, 5);
        Check.tape(x, "ill 1;ill 2;");
        x.image(false);
        Check.same("the fault of now", x.fault(0), 2);
        Check.same("its place", x.fault(1), 5);
        Check.no("no more on the tape", x.end(13));
        Check.yes("the tape of now", x.end(12));
        Check.same("it is luck", x.text(1), 2);
        x.image(false);
        Check.same("luck goes back", x.look(11), 0);
        Check.same("the fault does not", x.fault(0), 0);
        Check.no("nor the tape", x.end(1));
    }

    private static void butWhatCanBeUndone() {
        Check.sentence("THE IMAGE: all but what can be undone (nothing then)");
        NineCopies x = one();
        x.days(3);
        x.image(true);
        Check.same("the taking forgets nothing", x.look(13), 3);
        x.hand(0, 0);
        Check.same("four", x.look(13), 4);
        x.image(false);
        Check.same("nothing then", x.look(13), 0);
        Check.no("nothing", x.undo());
        Check.same("the day", x.look(2), 3);
        x.hand(0, 1);
        Check.yes("what is done from there can be", x.undo());
        Check.no("that alone", x.undo());
        Check.yes("gone back to again", x.image(false));
        Check.no("nothing again", x.undo());
    }

    private static void takenAnew() {
        Check.sentence("32: THE IMAGE is taken (true)");
        NineCopies x = one();
        x.days(1);
        x.image(true);
        x.days(1);
        Check.yes("taken anew", x.image(true));
        x.days(1);
        x.image(false);
        Check.same("that which was taken last", x.look(2), 2);
        x.undo();
        Check.same("it goes on from there", x.days(60), 0);
        Check.same("the day", x.look(2), 62);
        x.image(false);
        Check.same("the image stays", x.look(2), 2);
    }
}
