/** The boundary cases of 3 ACTS, a sentence a test: promises 13, 15 (but for the laws), 16, 17 and 19. */
public final class BoundsOfDaysTest {
    private static final int NONE = NineCopies.NONE;

    public static void main(String[] args) {
        oneToSixtyDays();
        dayToThousands();
        nothingIsDoneThen();
        cameIntoHands();
        frostStopsThePost();
        thoseNotAboveDayCome();
        inTheirOrder();
        behindThoseThatWait();
        aBurnerBurns();
        sentAheadOfThat();
        sentToAnotherIsNotAsked();
        fourthIsLost();
        firstOfSeveralEnds();
        heldFromThatDay();
        onlyTheHeldIsHad();
        bookOfTwoHundred();
        linesOfTheBook();
        whoWrites();
        personByPerson();
        leftAndPaperAtMost();
        eachLetterAsItIs();
        paperIsShared();
        whatHeWouldWriteThen();
        noBlotsNoDraw();
        belowBlots();
        drawsWithoutSign();
        drawOfTen();
        curseOfMarkNought();
        marksThereOrNot();
        versionsOfVersions();
        fortyVersions();
        sixtyOnTheWay();
        roomOnTheWay();
        asManyDaysLater();
        sentIsASet();
        lettersWithLeftNought();
        dueIsDayOrBelow();
        dueOfTwentyDays();
        conventsKeepTheirs();
        coinNotBelowNought();
        illLuckOfEach();
        mostIllLuck();
        oneCursedBehindTheOther();
        writtenOutAheadOfTheCurse();
        dayIsOneMore();
        whatsOfALetter();
        whatsOnTheWay();
        stampsOfUnlikeOnes();
        stampsAreLeast();
        lettersOfAKind();
        Check.finish("BoundsOfDaysTest");
    }

    private static void oneToSixtyDays() {
        Check.sentence("13: DAYS go by (1 .. 60). NONE if one can't be");
        NineCopies x = new NineCopies();
        for (int n : new int[] {0, -1, 61, Integer.MIN_VALUE, Integer.MAX_VALUE}) {
            Check.same(n + " days", x.days(n), NONE);
            Check.same("the day", x.look(2), 0);
        }
        Check.same("one", x.days(1), 0);
        Check.same("the day behind one", x.look(2), 1);
        Check.same("sixty", x.days(60), 0);
        Check.same("the day behind sixty", x.look(2), 61);
        Check.same("two can't be below", x.days(-60), NONE);
    }

    private static NineCopies atDay(int day) {
        NineCopies x = Given.people(1);
        for (int left = day; left > 0; left -= 60) {
            x.days(Math.min(60, left));
        }
        return x;
    }

    private static void dayToThousands() {
        Check.sentence("DAY 0 .. 9999; NONE if DAY would be above 9999");
        NineCopies x = atDay(9939);
        Check.same("sixty to the last day", x.days(60), 0);
        Check.same("the last day", x.look(2), 9999);
        Check.same("no day more", x.days(1), NONE);
        Check.same("the last day still", x.look(2), 9999);
        NineCopies y = atDay(9940);
        Check.same("sixty are one too many", y.days(60), NONE);
        Check.same("nothing is done", y.look(2), 9940);
        Check.same("fifty-nine are not", y.days(59), 0);
        Check.same("the last day again", y.look(2), 9999);
        NineCopies z = atDay(9998);
        Check.same("two are one too many", z.days(2), NONE);
        Check.same("the most there are", z.days(Integer.MAX_VALUE), NONE);
        Check.same("one is not", z.days(1), 0);
    }

    private static void nothingIsDoneThen() {
        Check.sentence("13: NONE, and nothing is done");
        for (int n : new int[] {0, 61}) {
            NineCopies x = Given.lively();
            x.days(n);
            Check.all("all as it was", Given.seen(x), Given.seen(Given.lively()));
        }
        NineCopies x = atDay(9950);
        x.person(0, 0, 0);
        x.version(3, 0);
        x.set(3, 0, 9);
        x.address(0, 1);
        x.hand(0, 0);
        Check.same("fifty", x.days(50), NONE);
        Check.same("no letter is posted", x.look(3), 0);
        Check.same("none is cursed", x.look(8), 0);
        Check.same("one can be undone", x.look(13), 1);
        Check.same("forty-nine", x.days(49), 3);
        Check.same("a letter on the last day", x.letter(0, 0, 0), NONE - 1);
        x.undo();
        x.hand(0, 0);
        Check.same("due above the last day", x.letter(0, 0, 2), 9998 + 9);
    }

    private static void cameIntoHands() {
        Check.sentence("13: how many LETTERS came into hands in them");
        NineCopies x = Given.writer(9, 9);
        x.person(0, 1, 0);
        x.person(0, 2, 0);
        Given.row(x, 0, 2, 3);
        x.hand(0, 0);
        Check.same("those handed and posted do not count", x.days(1), 0);
        Check.same("three to each but the burner", x.days(1), 6);
        Check.same("no more", x.days(60), 0);
        NineCopies y = Given.writer(9, 9);
        Check.tell(y, 0, "write 1;");
        y.set(7, 0, 1);
        y.set(7, 0, 20);
        y.hand(0, 0);
        Check.same("of all the days, but for those lost", y.days(60), 3);
    }

    private static void frostStopsThePost() {
        Check.sentence("(a) Without FROST those on the WAY come");
        NineCopies x = Given.writer(2, 9);
        x.hand(0, 0);
        x.set(9, 0, 1);
        x.days(1);
        Check.same("with frost he writes", x.look(3), 2);
        Check.same("none comes", x.days(5), 0);
        Check.same("both wait", x.look(3), 2);
        Check.same("no line", x.look(5), 0);
        x.set(7, 0, 1);
        x.hand(1, 0);
        x.days(2);
        Check.same("with frost one is cursed", x.look(8), 1);
        x.set(9, 0, 0);
        Check.same("both come without it", x.days(1), 2);
        Check.same("none waits", x.look(3), 0);
        Check.same("the day is that of coming", x.book(0, 0), 8);
    }

    private static void thoseNotAboveDayCome() {
        Check.sentence("those on the WAY whose DAY is not above DAY come");
        for (int days : new int[] {1, 2, 20}) {
            NineCopies x = Given.writer(1, 9);
            Check.tell(x, 2, days == 1 ? "" : "post 0 to 0 in " + days + ";");
            x.days(3);
            x.hand(0, 0);
            x.days(1);
            Check.same("the day on which it can come", x.onWay(0, 3), 3 + days);
            if (days > 1) {
                Check.same("not ahead of it", x.days(days - 1), 0);
            }
            Check.same("it waits", x.look(3), 1);
            Check.same("the day", x.look(2), 3 + days);
            Check.same("it comes", x.days(1), 1);
            Check.same("on that day", x.book(0, 0), 3 + days);
            Check.same("it waits no more", x.look(3), 0);
        }
    }

    private static void inTheirOrder() {
        Check.sentence("one behind the other in their order; in the order in which they were posted");
        NineCopies x = Given.inTowns(0, 1, 2, 3, 4, 5);
        Check.tell(x, 2, "post 0 to 2 in 3;post 0 to 4 in 2;");
        Check.tell(x, 0, "write 9;");
        for (int v = 0; v < 5; v++) {
            x.version(v, 0);
        }
        Given.rules(x, 5, 9);
        x.set(3, 0, 5);
        Given.row(x, 0, 1, 2, 3, 4, 5);
        x.hand(0, 4);
        x.days(1);
        int[][] left = {{1, 2, 3, 4, 5}, {2, 4}, {2}, {}};
        int[] came = {3, 1, 1};
        for (int day = 0; day < 4; day++) {
            for (int i = 0; i < left[day].length; i++) {
                Check.same("on the way", x.onWay(i, 2), left[day][i]);
            }
            Check.same("no more", x.onWay(left[day].length, 2), NONE);
            if (day < 3) {
                Check.same("came", x.days(1), came[day]);
            }
        }
        int[] tos = {1, 3, 5, 4, 2};
        for (int i = 0; i < 5; i++) {
            Check.same("line " + i, x.book(i, 3), tos[i]);
        }
        // The first three on the way are held, the fourth finds no room.
        NineCopies y = Given.people(5);
        Check.tell(y, 0, "write 9;");
        Given.rules(y, 1, 9);
        for (int p = 0; p < 4; p++) {
            y.version(p, 0);
            y.set(3, p, 1);
            y.address(p, 4);
            y.hand(p, p);
        }
        y.days(2);
        for (int p = 0; p < 3; p++) {
            Check.same("held", y.letter(4, p, 0), p);
            Check.same("from", y.letter(4, p, 1), p);
        }
        Check.same("lost", y.book(3, 4), 3);
        Check.same("it was the last", y.book(3, 2), 3);
    }

    private static void behindThoseThatWait() {
        Check.sentence("those on the WAY whose DAY is not above DAY come (each as it is, whatever waits ahead of it)");
        NineCopies x = Given.inTowns(0, 1, 2, 3, 4, 5, 5);
        Check.tell(x, 2, "post 0 to 3 in 9;post 2 to 5 in 2;");
        Given.rules(x, 1, 9);
        for (int p = 0; p < 3; p++) {
            x.version(9 - p, p);
            x.set(3, p, 1);
            x.address(p, p + 3);
            x.hand(p, p);
        }
        x.set(1, 5, 1);
        x.days(1);
        for (int v = 0; v < 3; v++) {
            Check.same("one of each on the way", x.kind(v, 5), 1);
        }
        Check.same("one comes", x.days(1), 1);
        Check.same("to whom it goes", x.letter(4, 0, 0), 1);
        Check.same("from whom it is", x.letter(4, 0, 1), 1);
        x.days(1);
        int[][] lines = {{1, 1, 1, 4, 0}, {2, 2, 2, 5, 1}};
        for (int i = 0; i < 2; i++) {
            for (int what = 0; what < 5; what++) {
                Check.same("line " + i + " what " + what, x.book(i, what), lines[i][what]);
            }
        }
        int[] waits = {0, 0, 3, 9};
        for (int what = 0; what < 4; what++) {
            Check.same("the first waits, what " + what, x.onWay(0, what), waits[what]);
        }
        Check.same("it alone", x.look(3), 1);
        Check.same("letters of it", x.kind(0, 5), 1);
        Check.same("letters of the one that came", x.kind(1, 5), 1);
        Check.same("letters of the one that was burnt", x.kind(2, 5), 0);
    }

    private static void aBurnerBurns() {
        Check.sentence("if he is a burner, it is burnt (what: 1)");
        for (int kind = 0; kind < 3; kind++) {
            NineCopies x = Given.writer(1, 1);
            x.hand(0, 0);
            x.days(1);
            x.set(1, 1, kind);
            Check.same("came to kind " + kind, x.days(1), kind == 1 ? 0 : 1);
            Check.same("what", x.book(0, 4), kind == 1 ? 1 : 0);
            Check.same("in hands", x.of(1, 6), kind == 1 ? 0 : 1);
            Check.same("none lost", x.look(9), 0);
            Check.same("none on the way", x.look(3), 0);
        }
    }

    private static void sentAheadOfThat() {
        Check.sentence("if he SENT one to whom it is FROM ahead of that, it is done with (2)");
        NineCopies x = Given.ring(2, 2, 9, 9);
        x.hand(0, 0);
        x.days(2);
        Check.same("the first to him is held", x.book(0, 4), 0);
        Check.same("he sent one back", x.of(1, 10), 1);
        Check.same("none comes", x.days(1), 0);
        Check.same("the second to him is done with", x.book(1, 4), 2);
        Check.same("to him", x.book(1, 3), 1);
        Check.same("his to the first too", x.book(2, 4), 2);
        Check.same("to the first", x.book(2, 3), 0);
        Check.same("none lost", x.look(9), 0);
        // Two who write to one another on the same day have both sent ahead of what comes.
        NineCopies y = Given.ring(2, 1, 9, 9);
        y.hand(0, 0);
        y.hand(1, 0);
        y.days(1);
        Check.same("none of both comes", y.days(1), 0);
        Check.same("the one", y.book(0, 4), 2);
        Check.same("the other", y.book(1, 4), 2);
    }

    private static void sentToAnotherIsNotAsked() {
        Check.sentence("if he SENT one to whom it is FROM (not to another)");
        NineCopies x = Given.people(3);
        x.version(1, 0);
        Given.rules(x, 1, 9);
        x.set(3, 0, 1);
        x.set(3, 1, 1);
        x.address(0, 1);
        x.address(1, 2);
        x.hand(0, 0);
        x.hand(1, 0);
        x.days(1);
        Check.same("he sent to another", x.of(1, 10), 4);
        Check.same("both come", x.days(1), 2);
        Check.same("to him", x.book(0, 4), 0);
        Check.same("to the other", x.book(1, 4), 0);
    }

    private static void fourthIsLost() {
        Check.sentence("if he has 3, it is LOST (3)");
        for (int has = 2; has <= 3; has++) {
            NineCopies x = Given.writer(1, 1);
            x.version(6, 0);
            for (int i = 0; i < has; i++) {
                x.hand(1, 1);
            }
            x.hand(0, 0);
            x.days(1);
            Check.same("came to one who has " + has, x.days(1), 3 - has);
            Check.same("what", x.book(0, 4), has == 3 ? 3 : 0);
            Check.same("lost", x.look(9), has - 2);
            Check.same("has", x.of(1, 6), 3);
            Check.same("had", x.of(1, 9), 4 - has);
            Check.same("the last", x.letter(1, 2, 0), has - 2);
            Check.same("none on the way", x.look(3), 0);
        }
    }

    private static void firstOfSeveralEnds() {
        Check.sentence("if he is a burner 1; if he SENT 2; if he has 3; else 0");
        // Bit 0: a burner, bit 1: he sent one to whom it is from, bit 2: he has three.
        for (int is = 0; is < 8; is++) {
            NineCopies x = Given.people(2);
            x.version(1, 0);
            Given.rules(x, 1, 20);
            x.address(0, 1);
            x.address(1, 0);
            x.set(3, 1, (is & 2) == 0 ? 0 : 1);
            x.hand(1, 0);
            x.days(1);
            x.set(3, 0, 1);
            x.set(3, 1, 0);
            Check.same("sent", x.of(1, 10), (is & 2) == 0 ? 0 : 1);
            for (int i = 0; i < 3 && (is & 4) != 0; i++) {
                x.hand(1, 0);
            }
            x.set(9, 0, 1);
            x.hand(0, 0);
            x.days(1);
            x.set(9, 0, 0);
            x.set(1, 1, is & 1);
            x.days(1);
            int line = (is & 2) == 0 ? 0 : 1;
            Check.same("to him", x.book(line, 3), 1);
            int due = (is & 1) != 0 ? 1 : (is & 2) != 0 ? 2 : (is & 4) != 0 ? 3 : 0;
            Check.same("what of " + is, x.book(line, 4), due);
            Check.same("lost of " + is, x.look(9), due == 3 ? 1 : 0);
        }
    }

    private static void heldFromThatDay() {
        Check.sentence("else he holds it (0), DUE is DAY and TERM, LEFT is COPIES");
        for (int most = 0; most < 2; most++) {
            NineCopies x = Given.writer(1, 1);
            x.hand(0, 0);
            x.days(1);
            x.set(5, 1, 1);
            Given.rules(x, most == 1 ? 9 : 1, most == 1 ? 20 : 1);
            x.days(1);
            Check.same("from", x.letter(1, 0, 1), 0);
            Check.same("due", x.letter(1, 0, 2), most == 1 ? 21 : 2);
            Check.same("left", x.letter(1, 0, 3), most == 1 ? 9 : 1);
            Check.same("one of a handed one", x.letter(1, 1, 1), NONE - 1);
        }
    }

    private static void onlyTheHeldIsHad() {
        Check.sentence("HAD: that he held (not that was burnt, done with or LOST)");
        int[] kinds = {0, 1, 2};
        for (int kind : kinds) {
            NineCopies x = Given.writer(1, 1);
            x.hand(0, 0);
            x.days(1);
            x.set(1, 1, kind);
            Check.same("not yet", x.of(1, 9), 0);
            x.days(1);
            Check.same("had by kind " + kind, x.of(1, 9), kind == 1 ? 0 : 1);
            Check.same("knows", x.knows(1), kind == 1 ? 1 : 3);
        }
        NineCopies y = Given.ring(2, 1, 9, 9);
        y.version(5, 5);
        y.hand(0, 0);
        y.hand(1, 1);
        y.days(2);
        Check.same("done with is not had", y.of(1, 9), 1);
        Check.same("nor by the other", y.of(0, 9), 1);
    }

    private static void bookOfTwoHundred() {
        Check.sentence("THE BOOK (200 lines; no more then)");
        NineCopies x = Given.people(3);
        x.set(1, 1, 1);
        x.version(1, 0);
        x.address(0, 1);
        Check.tell(x, 0, "write 9;");
        for (int i = 0; i < 7; i++) {
            x.set(3, 0, 99);
            x.hand(0, 0);
            x.hand(0, 0);
            x.hand(0, 0);
            x.days(1);
        }
        x.set(3, 0, 10);
        x.hand(0, 0);
        x.hand(0, 0);
        x.days(2);
        Check.same("lines", x.look(5), 199);
        Check.same("the last", x.book(198, 4), 1);
        Check.same("none behind it", x.book(199, 4), NONE - 1);
        x.address(0, NONE);
        x.address(0, 2);
        x.set(3, 0, 2);
        x.days(1);
        Check.same("two come", x.days(1), 2);
        Check.same("200 lines", x.look(5), 200);
        Check.same("the 200th", x.book(199, 3), 2);
        Check.same("no 201st", x.book(200, 3), NONE - 1);
        Check.same("both are held all the same", x.of(2, 6), 2);
        x.set(3, 0, 2);
        x.days(2);
        Check.same("no more then", x.look(5), 200);
        Check.same("the third is held, the fourth lost", x.look(9), 1);
        Check.same("the first line stays", x.book(0, 3), 1);
        Check.same("the 200th stays", x.book(199, 0), 10);
    }

    private static void linesOfTheBook() {
        Check.sentence("19: NONE - 1 if there is none such, or another what.");
        NineCopies x = Given.writer(2, 2);
        Check.same("none yet", x.book(0, 0), NONE - 1);
        x.version(4, 0);
        x.hand(0, 1);
        x.days(2);
        for (int i : new int[] {-1, 2, 200, Integer.MIN_VALUE, Integer.MAX_VALUE}) {
            for (int what = 0; what < 5; what++) {
                Check.same("line " + i, x.book(i, what), NONE - 1);
            }
        }
        for (int what : new int[] {-1, 5, 6, Integer.MIN_VALUE, Integer.MAX_VALUE}) {
            Check.same("what " + what, x.book(0, what), NONE - 1);
        }
        x.person(0, 1, 0);
        x.address(1, 2);
        x.set(3, 1, 1);
        x.hand(1, 0);
        x.burn(1, 0);
        x.burn(1, 0);
        x.days(2);
        int[][] due = {{1, 1, 0, 1, 0}, {1, 1, 0, 1, 0}, {3, 0, 1, 2, 1}};
        for (int i = 0; i < 3; i++) {
            for (int what = 0; what < 5; what++) {
                Check.same("line " + i + " what " + what, x.book(i, what), due[i][what]);
            }
        }
        Check.same("none behind the last", x.book(3, 0), NONE - 1);
    }

    private static void whoWrites() {
        Check.sentence("(b) PERSON by PERSON by number, who is no convent, not STOPPED, and has a ROW");
        for (int kind = 0; kind < 3; kind++) {
            for (int stopped = 0; stopped < 2; stopped++) {
                for (int row = 0; row < 2; row++) {
                    NineCopies x = Given.people(2);
                    x.version(1, 0);
                    x.set(3, 0, 9);
                    x.hand(0, 0);
                    x.set(1, 0, kind);
                    x.set(5, 0, stopped);
                    x.address(0, row == 1 ? 1 : NONE);
                    x.days(1);
                    boolean writes = kind != 2 && stopped == 0 && row == 1;
                    Check.same("kind " + kind + " stopped " + stopped + " row " + row, x.look(3), writes ? 1 : 0);
                    Check.same("paper", x.of(0, 3), writes ? 8 : 9);
                    Check.same("left", x.letter(0, 0, 3), writes ? 8 : 9);
                }
            }
        }
    }

    private static void personByPerson() {
        Check.sentence("(b) PERSON by PERSON by number, LETTER by LETTER in their order");
        NineCopies x = Given.people(16);
        x.version(1, 0);
        x.version(2, 0);
        Given.rules(x, 1, 9);
        for (int p = 15; p >= 0; p--) {
            x.set(3, p, 9);
            x.address(p, p == 3 ? 4 : 3);
            x.hand(p, 1);
            x.hand(p, 0);
        }
        x.days(1);
        for (int i = 0; i < 32; i++) {
            Check.same("from", x.onWay(i, 1), i / 2);
            Check.same("version", x.onWay(i, 0), 1 - i % 2);
        }
        Check.same("no more", x.onWay(32, 0), NONE);
    }

    private static void leftAndPaperAtMost() {
        Check.sentence("what he would WRITE then, LEFT and PAPER at most");
        int[][] cases = {{2, 3, 3, 2}, {3, 3, 3, 3}, {4, 3, 4, 3}, {4, 4, 3, 3}, {9, 9, 9, 9}, {9, 9, 8, 8}, {9, 8, 9, 8},
            {0, 3, 3, 0}, {3, 3, 0, 0}, {1, 1, 1, 1}, {9, 9, 99, 9}};
        for (int[] one : cases) {
            NineCopies x = Given.writer(one[1], one[2]);
            Check.tell(x, 0, "write " + one[0] + ";");
            x.hand(0, 0);
            x.days(1);
            String what = "would write " + one[0] + ", left " + one[1] + ", paper " + one[2];
            Check.same(what + ": on the way", x.look(3), one[3]);
            Check.same(what + ": paper", x.of(0, 3), one[2] - one[3]);
            Check.same(what + ": left", x.letter(0, 0, 3), one[1] == one[3] ? NONE - 1 : one[1] - one[3]);
            Check.same(what + ": freed", x.look(7), one[1] == one[3] ? 1 : 0);
        }
    }

    private static void eachLetterAsItIs() {
        Check.sentence("LETTER by LETTER in their order: LEFT at most, of its VERSION (whatever stays ahead of it)");
        NineCopies x = Given.writer(9, 99);
        x.version(7, 3);
        Check.tell(x, 0, "write 9 when curse=7;write 0;");
        x.hand(0, 0);
        x.set(6, 0, 2);
        x.hand(0, 1);
        x.set(6, 0, 4);
        x.hand(0, 1);
        x.days(1);
        Check.same("two and four", x.look(3), 6);
        for (int i = 0; i < 6; i++) {
            Check.same("of its version", x.onWay(i, 0), 1);
        }
        Check.same("on the way", x.kind(1, 5), 6);
        Check.same("in hands", x.kind(0, 5), 1);
        Check.same("the first stays", x.letter(0, 0, 3), 9);
        Check.same("both others are freed", x.look(7), 2);
        // So the new ones are of its version too.
        NineCopies y = Given.writer(9, 99);
        y.version(7, 1023);
        y.set(8, 0, 1000);
        Check.tell(y, 0, "write 2 when curse=7;write 0;");
        y.hand(0, 0);
        y.hand(0, 1);
        y.days(1);
        for (int v = 2; v < 4; v++) {
            Check.same("of which", y.kind(v, 2), 1);
            Check.same("marks", Integer.bitCount(y.kind(v, 1)), 9);
            Check.same("curse", y.kind(v, 0), (y.kind(v, 1) & 1) == 1 ? 7 : 6);
        }
    }

    private static void paperIsShared() {
        Check.sentence("PAPER and LEFT are one less (by each copy of each LETTER)");
        for (int paper = 3; paper <= 7; paper++) {
            NineCopies x = Given.writer(3, paper);
            for (int i = 0; i < 2; i++) {
                x.hand(0, 0);
            }
            x.days(1);
            Check.same("paper", x.of(0, 3), Math.max(0, paper - 6));
            Check.same("freed", x.look(7), paper / 3 > 2 ? 2 : paper / 3);
            Check.same("left", x.letter(0, 0, 3), paper < 6 ? 6 - paper : NONE - 1);
        }
    }

    private static void whatHeWouldWriteThen() {
        Check.sentence("what he would WRITE then (PAPER, held and days as they are then)");
        NineCopies x = Given.writer(9, 9);
        Check.tell(x, 0, "write 2 when paper=9;write 4 when paper=7;write 0;");
        x.hand(0, 0);
        x.hand(0, 0);
        x.days(1);
        Check.same("the first", x.letter(0, 0, 3), 7);
        Check.same("the second", x.letter(0, 1, 3), 5);
        NineCopies y = Given.writer(2, 99);
        Check.tell(y, 0, "write 9 when held=2;write 1;");
        y.hand(0, 0);
        y.hand(0, 0);
        y.days(1);
        Check.same("the first is out of his hands ahead of the second", y.letter(0, 0, 3), 1);
        NineCopies z = Given.writer(9, 99);
        Check.tell(z, 0, "write 1 when days=9;write 3 when days=8 and day=1;write 0;");
        z.hand(0, 0);
        z.days(1);
        Check.same("on the day of its handing", z.letter(0, 0, 3), 8);
        z.days(1);
        Check.same("a day later", z.letter(0, 0, 3), 5);
    }

    /** One copy is written of a version with this curse and these marks. */
    private static NineCopies oneCopy(int state, int blots, int curse, int marks) {
        NineCopies x = Given.people(2);
        x.version(curse, marks);
        x.set(3, 0, 1);
        x.set(8, 0, blots);
        x.address(0, 1);
        x.state(state);
        x.hand(0, 0);
        x.days(1);
        return x;
    }

    private static void noBlotsNoDraw() {
        Check.sentence("each copy: if BLOTS are above 0, a DRAW of 1000");
        NineCopies x = oneCopy(12345, 0, 1, 1);
        Check.same("without them none", x.look(6), 12345);
        Check.same("no version", x.look(1), 1);
        // With BLOTS 1 there is a draw; of this state it is 999, so no second one.
        NineCopies y = oneCopy(Given.stateBefore(999 << 8), 1, 1, 1);
        Check.same("with them one", y.look(6), 999 << 8);
        Check.same("no version of 999", y.look(1), 1);
    }

    private static void belowBlots() {
        Check.sentence("a DRAW of 1000: below BLOTS a new VERSION");
        for (int blots : new int[] {1, 2, 500, 999}) {
            int at = blots << 8;
            NineCopies x = oneCopy(Given.stateBefore(at), blots, 5, 0);
            Check.same("just at " + blots, x.look(1), 1);
            Check.same("one draw", x.look(6), at);
            Check.same("it is posted as it is", x.onWay(0, 0), 0);
            int below = blots - 1 << 8 | 255;
            NineCopies y = oneCopy(Given.stateBefore(below), blots, 5, 0);
            Check.same("just below " + blots, y.look(1), 2);
            Check.same("two draws", y.look(6), Given.stateBehind(below));
            Check.same("the new one is posted", y.onWay(0, 0), 1);
        }
        NineCopies z = oneCopy(Given.stateBefore(999 << 8), 1000, 5, 0);
        Check.same("the highest draw is below 1000", z.look(1), 2);
        NineCopies w = oneCopy(Given.stateBefore(1000 << 8), 1, 5, 0);
        Check.same("1000 draws 0", w.look(1), 2);
        NineCopies v = oneCopy(Given.stateBefore(1001 << 8), 1, 5, 0);
        Check.same("1001 draws 1", v.look(1), 1);
    }

    private static void drawsWithoutSign() {
        Check.sentence("it is its highest 24 bits (without sign) modulo m; ints, which wrap");
        int[] states = {-1, Integer.MIN_VALUE, Integer.MAX_VALUE, -256, -257, 0, 255, 256};
        int[] draws = {215, 608, 607, 215, 214, 0, 0, 1};
        for (int i = 0; i < states.length; i++) {
            int before = Given.stateBefore(states[i]);
            NineCopies x = oneCopy(before, draws[i] + 1, 5, 0);
            Check.same("below it", x.look(1), 2);
            if (draws[i] > 0) {
                NineCopies y = oneCopy(before, draws[i], 5, 0);
                Check.same("not below it", y.look(1), 1);
                Check.same("the state", y.look(6), states[i]);
            }
        }
    }

    private static void drawOfTen() {
        Check.sentence("of its MARKS the one told by a DRAW of ten is changed");
        int[] states = {0, 255, 256, 9 << 8, 10 << 8, 19 << 8, -1, Integer.MIN_VALUE, Integer.MAX_VALUE};
        int[] marks = {0, 0, 1, 9, 0, 9, 5, 8, 7};
        for (int i = 0; i < states.length; i++) {
            int first = Given.stateBefore(Given.stateBefore(states[i]));
            NineCopies x = oneCopy(first, 1000, 5, 0);
            Check.same("the state", x.look(6), states[i]);
            Check.same("the mark", x.kind(1, 1), 1 << marks[i]);
            Check.same("the curse", x.kind(1, 0), marks[i] == 0 ? 4 : 5);
            Check.same("of which", x.kind(1, 2), 0);
            Check.same("by whom", x.kind(1, 3), 0);
        }
    }

    /** A state of which the second draw tells this mark. */
    private static int stateOfMark(int mark) {
        return Given.stateBefore(Given.stateBefore(mark << 8));
    }

    private static void curseOfMarkNought() {
        Check.sentence("if that is MARK 0, CURSE is one less (0 at least)");
        for (int curse : new int[] {0, 1, 2, 9}) {
            for (int marks = 0; marks < 2; marks++) {
                NineCopies x = oneCopy(stateOfMark(0), 1000, curse, marks);
                Check.same("of curse " + curse, x.kind(1, 0), curse == 0 ? 0 : curse - 1);
                Check.same("mark 0", x.kind(1, 1), 1 - marks);
                Check.same("the one that it came of stays", x.kind(0, 0), curse);
            }
            for (int mark : new int[] {1, 9}) {
                NineCopies x = oneCopy(stateOfMark(mark), 1000, curse, 0);
                Check.same("of mark " + mark, x.kind(1, 0), curse);
            }
        }
    }

    private static void marksThereOrNot() {
        Check.sentence("is changed (there or not)");
        for (int mark = 0; mark < 10; mark++) {
            NineCopies x = oneCopy(stateOfMark(mark), 1000, 5, 0);
            Check.same("there now", x.kind(1, 1), 1 << mark);
            NineCopies y = oneCopy(stateOfMark(mark), 1000, 5, 1023);
            Check.same("there no more", y.kind(1, 1), 1023 - (1 << mark));
            Check.same("the one that it came of stays", y.kind(0, 1), 1023);
        }
    }

    private static void versionsOfVersions() {
        Check.sentence("a new VERSION (of that one, by his hand)");
        NineCopies x = Given.ring(3, 1, 9, 9);
        x.set(8, 0, 1000);
        x.hand(2, 0);
        x.days(3);
        int[] by = {NONE, 2, 0, 1};
        for (int v = 0; v < 4; v++) {
            Check.same("of which", x.kind(v, 2), v - 1);
            Check.same("by whom", x.kind(v, 3), by[v]);
            Check.same("children", x.kind(v, 4), 3 - v);
        }
        // Each copy of one letter is of the letter's own version, not of the copy ahead of it.
        NineCopies y = Given.writer(3, 9);
        y.set(8, 0, 1000);
        y.hand(0, 0);
        y.days(1);
        for (int v = 1; v < 4; v++) {
            Check.same("of the letter's own", y.kind(v, 2), 0);
        }
    }

    private static void fortyVersions() {
        Check.sentence("with forty VERSIONS it is the same one (both DRAWS all the same)");
        for (int there = 38; there <= 40; there++) {
            NineCopies x = Given.people(2);
            for (int v = 0; v < there; v++) {
                x.version(3, 1);
            }
            x.set(3, 0, 2);
            Check.tell(x, 0, "write 2;");
            x.set(8, 0, 1000);
            x.address(0, 1);
            x.hand(0, 7);
            x.days(1);
            int state = 0;
            for (int i = 0; i < 4; i++) {
                state = Given.stateBehind(state);
            }
            Check.same("both draws of both", x.look(6), state);
            Check.same("forty at most", x.look(1), 40);
            Check.same("the first copy", x.onWay(0, 0), there < 40 ? there : 7);
            Check.same("the second copy", x.onWay(1, 0), there < 39 ? there + 1 : 7);
            Check.same("children", x.kind(7, 4), 40 - there);
            Check.same("as it is", x.kind(7, 0), 3);
        }
    }

    /** Seven have letters and so much paper in all; nothing comes for twenty days. */
    private static NineCopies manyOnTheWay(int copies) {
        NineCopies x = Given.people(9);
        x.version(1, 0);
        Check.tell(x, 2, "post 0 to 0 in 20;");
        Check.tell(x, 0, "write 9;");
        int left = copies;
        for (int p = 0; p < 8; p++) {
            int paper = Math.min(9, left);
            x.set(3, p, paper);
            Given.row(x, p, 8, 8);
            x.hand(p, 0);
            left -= paper;
        }
        x.days(1);
        return x;
    }

    private static void sixtyOnTheWay() {
        Check.sentence("LETTERS on the WAY: 60 at most (if 60 are on the WAY it is LOST)");
        int[] copies = {59, 60, 61, 63};
        for (int c : copies) {
            NineCopies x = manyOnTheWay(c);
            Check.same("on the way of " + c, x.look(3), Math.min(60, c));
            Check.same("lost of " + c, x.look(9), Math.max(0, c - 60));
            Check.same("the sixtieth of " + c, x.onWay(59, 1), c < 60 ? NONE : 6);
            Check.same("no sixty-first of " + c, x.onWay(60, 1), NONE);
            Check.same("paper of " + c, x.of(6, 3), 0);
            Check.same("left of " + c, x.letter(6, 0, 3), c == 63 ? NONE - 1 : 63 - c);
            Check.same("next of " + c, x.of(6, 8), c % 2 == 0 ? 0 : 1);
            Check.same("sent of " + c, x.of(6, 10), 256);
            Check.same("freed of " + c, x.look(7), c == 63 ? 7 : 6);
            Check.same("none in the book of " + c, x.look(5), 0);
        }
        // Only for that of which there is no room at all: he SENT it there all the same.
        NineCopies y = manyOnTheWay(64);
        Check.same("sent though lost", y.of(7, 10), 256);
        Check.same("left though lost", y.letter(7, 0, 3), 8);
        Check.same("next though lost", y.of(7, 8), 1);
        Check.same("four are lost", y.look(9), 4);
    }

    private static void roomOnTheWay() {
        Check.sentence("those on the WAY come; then (b)");
        NineCopies x = manyOnTheWay(60);
        x.set(3, 7, 9);
        x.days(1);
        Check.same("no room, so all of his nine are lost", x.look(9), 9);
        Check.same("sixty still", x.look(3), 60);
        x.set(7, 0, 20);
        x.hand(7, 0);
        x.days(18);
        x.set(3, 7, 1);
        x.days(1);
        Check.same("on the day on which sixty come there is room", x.look(3), 1);
        Check.same("three are held, the others lost", x.look(9), 9 + 57);
    }

    private static void asManyDaysLater() {
        Check.sentence("to come as many DAYS later as THE POST tells for both TOWNS");
        NineCopies x = Given.inTowns(0, 5, 2, 0);
        x.version(1, 0);
        Check.tell(x, 2, "post 5 to 0 in 20;post 0 to 2 in 7;post 0 to 0 in 4;post 5 to 2 in 9;");
        Check.tell(x, 0, "write 9;");
        Given.rules(x, 3, 9);
        x.set(3, 0, 9);
        Given.row(x, 0, 1, 2, 3);
        x.days(6);
        x.hand(0, 0);
        x.days(1);
        Check.same("the most days", x.onWay(0, 3), 26);
        Check.same("other days", x.onWay(1, 3), 13);
        Check.same("in town", x.onWay(2, 3), 10);
        x.set(0, 1, 0);
        Check.tell(x, 2, "");
        Check.same("as it was told then", x.onWay(0, 3), 26);
        x.set(3, 0, 9);
        x.hand(0, 0);
        x.days(1);
        Check.same("what is not told", x.onWay(3, 3), 8);
    }

    private static void sentIsASet() {
        Check.sentence("SENT: to whom each sent a LETTER so far.");
        NineCopies x = Given.people(16);
        x.version(1, 0);
        Given.rules(x, 9, 20);
        Check.tell(x, 0, "write 1;");
        x.set(3, 1, 4);
        Given.row(x, 1, 15, 0, 15, 2);
        x.hand(1, 0);
        int[] sent = {1 << 15, 1 << 15 | 1, 1 << 15 | 1, 1 << 15 | 5, 1 << 15 | 5};
        Check.same("none at first", x.of(1, 10), 0);
        for (int due : sent) {
            x.days(1);
            Check.same("sent", x.of(1, 10), due);
        }
        x.address(1, NONE);
        Check.same("without a row he did so all the same", x.of(1, 10), 1 << 15 | 5);
        Check.same("the other sent none", x.of(0, 10), 0);
    }

    private static void lettersWithLeftNought() {
        Check.sentence("A LETTER with LEFT 0 is out of his hands then: FREED.");
        for (int paper = 2; paper <= 4; paper++) {
            NineCopies x = Given.writer(3, paper);
            x.hand(0, 0);
            x.days(1);
            Check.same("freed with paper " + paper, x.look(7), paper < 3 ? 0 : 1);
            Check.same("in hands", x.of(0, 6), paper < 3 ? 1 : 0);
            Check.same("left", x.letter(0, 0, 3), paper < 3 ? 1 : NONE - 1);
            Check.same("none cursed", x.look(8), 0);
        }
        // The first of three and the last are written out, the one between them is not.
        NineCopies y = Given.writer(1, 9);
        y.version(2, 0);
        Check.tell(y, 0, "write 9 when curse=5;write 0;");
        y.hand(0, 0);
        y.hand(0, 1);
        y.hand(0, 0);
        y.days(1);
        Check.same("two freed", y.look(7), 2);
        Check.same("one stays", y.of(0, 6), 1);
        Check.same("that between them", y.letter(0, 0, 0), 1);
    }

    private static void dueIsDayOrBelow() {
        Check.sentence("(c) each LETTER whose DUE is DAY or below is out of his hands: CURSED");
        NineCopies x = Given.people(1);
        x.version(3, 0);
        x.set(7, 0, 2);
        x.hand(0, 0);
        x.set(7, 0, 1);
        x.hand(0, 0);
        x.days(1);
        Check.same("both due above the day", x.look(8), 0);
        x.days(1);
        Check.same("one due on the day", x.look(8), 1);
        Check.same("the first stays", x.letter(0, 0, 2), 2);
        Check.same("it alone", x.of(0, 6), 1);
        x.days(1);
        Check.same("the other on its day", x.look(8), 2);
        Check.same("none is left", x.of(0, 6), 0);
        Check.same("none freed", x.look(7), 0);
        // A convent's one is due for long when he is none any more.
        NineCopies y = new NineCopies();
        y.person(0, 2, 0);
        y.version(3, 0);
        y.set(7, 0, 1);
        y.set(4, 0, 100);
        y.hand(0, 0);
        y.days(9);
        Check.same("not yet", y.look(8), 0);
        y.set(1, 0, 1);
        y.days(1);
        Check.same("due below the day", y.look(8), 1);
        Check.same("coin", y.of(0, 4), 73);
    }

    private static void dueOfTwentyDays() {
        Check.sentence("TERM 1 .. 20: DUE is DAY and TERM");
        for (int term : new int[] {1, 20}) {
            NineCopies x = Given.people(1);
            x.version(3, 0);
            x.set(7, 0, term);
            x.hand(0, 0);
            x.days(term);
            Check.same("not behind " + term, x.look(8), 0);
            x.days(1);
            Check.same("a day later", x.look(8), 1);
        }
    }

    private static void conventsKeepTheirs() {
        Check.sentence("(c) PERSON by PERSON, who is no convent");
        for (int kind = 0; kind < 3; kind++) {
            for (int stopped = 0; stopped < 2; stopped++) {
                NineCopies x = Given.people(1);
                x.version(3, 0);
                x.set(7, 0, 1);
                x.hand(0, 0);
                x.set(1, 0, kind);
                x.set(5, 0, stopped);
                x.set(4, 0, 30);
                x.days(2);
                Check.same("cursed of kind " + kind, x.look(8), kind == 2 ? 0 : 1);
                Check.same("in hands of kind " + kind, x.of(0, 6), kind == 2 ? 1 : 0);
                Check.same("coin of kind " + kind, x.of(0, 4), kind == 2 ? 30 : 3);
            }
        }
    }

    private static void coinNotBelowNought() {
        Check.sentence("COIN is ILL luck less (0 at least)");
        int[][] cases = {{0, 10, 0}, {9, 10, 0}, {10, 10, 0}, {11, 10, 1}, {9999, 10, 9989}, {0, 0, 0}, {5, 0, 5}};
        for (int[] one : cases) {
            NineCopies x = Given.people(1);
            x.version(3, 0);
            Check.tell(x, 1, "ill " + one[1] + ";");
            x.set(7, 0, 1);
            x.set(4, 0, one[0]);
            x.hand(0, 0);
            x.days(2);
            Check.same("coin " + one[0] + " less " + one[1], x.of(0, 4), one[2]);
            Check.same("cursed", x.look(8), 1);
        }
    }

    private static void illLuckOfEach() {
        Check.sentence("(c) each LETTER: COIN is ILL luck less (that of this LETTER)");
        NineCopies x = Given.people(3);
        x.version(9, 0);
        x.version(4, 0);
        x.version(1, 0);
        x.set(4, 0, 500);
        x.set(4, 2, 500);
        Given.rules(x, 9, 9);
        x.hand(0, 0);
        x.hand(2, 0);
        Given.rules(x, 5, 2);
        x.hand(2, 1);
        Given.rules(x, 3, 1);
        x.hand(2, 2);
        int[] due = {81, 20, 3};
        for (int i = 0; i < 3; i++) {
            Check.same("ill luck of " + i, x.letter(2, i, 5), due[i]);
        }
        x.days(2);
        Check.same("less that of the third", x.of(2, 4), 497);
        x.days(1);
        Check.same("less that of the second", x.of(2, 4), 477);
        x.days(7);
        Check.same("less that of the first", x.of(2, 4), 396);
        Check.same("the first one's coin", x.of(0, 4), 419);
        Check.same("the other has none", x.of(1, 4), 0);
    }

    private static void mostIllLuck() {
        Check.sentence("COIN is ILL luck less (held to 0 .. 999)");
        String[] laws = {"ill 1000;", "ill 999;", "ill 0-5;"};
        int[] due = {9000, 9000, 9999};
        for (int i = 0; i < laws.length; i++) {
            NineCopies x = Given.people(1);
            x.version(3, 0);
            Check.tell(x, 1, laws[i]);
            x.set(7, 0, 1);
            x.set(4, 0, 9999);
            x.hand(0, 0);
            x.days(2);
            Check.same(laws[i], x.of(0, 4), due[i]);
        }
    }

    private static void oneCursedBehindTheOther() {
        Check.sentence("(c) PERSON by PERSON: each LETTER: COIN is ILL luck less");
        NineCopies x = Given.people(2);
        x.version(3, 0);
        Check.tell(x, 1, "ill coin/2;");
        x.set(7, 0, 1);
        for (int p = 0; p < 2; p++) {
            x.set(4, p, 800);
            for (int i = 0; i <= p + 1; i++) {
                x.hand(p, 0);
            }
        }
        x.days(2);
        Check.same("two", x.of(0, 4), 200);
        Check.same("three", x.of(1, 4), 100);
        Check.same("five", x.look(8), 5);
    }

    private static void writtenOutAheadOfTheCurse() {
        Check.sentence("A DAY. (a), then (b), then (c)");
        NineCopies x = Given.writer(1, 1);
        x.set(7, 0, 1);
        x.set(4, 0, 50);
        Check.tell(x, 0, "write 1 when days=0;write 0;");
        x.hand(0, 0);
        x.days(2);
        Check.same("freed on the day on which it is due", x.look(7), 1);
        Check.same("not cursed", x.look(8), 0);
        Check.same("coin", x.of(0, 4), 50);
        NineCopies y = Given.ring(3, 1, 9, 9);
        y.hand(0, 0);
        y.days(2);
        Check.same("what comes is written out the same day", y.of(1, 6), 0);
        Check.same("and on the way again", y.onWay(0, 1), 1);
    }

    private static void dayIsOneMore() {
        Check.sentence("(d) DAY is one more.");
        NineCopies x = Given.people(1);
        for (int n = 1; n <= 4; n++) {
            x.days(n);
            Check.same("the day", x.look(2), n * (n + 1) / 2);
        }
        x.set(9, 0, 1);
        x.days(1);
        Check.same("with frost too", x.look(2), 11);
    }

    private static void whatsOfALetter() {
        Check.sentence("15: NONE - 1 if there is none such, or another what.");
        NineCopies x = Given.people(2);
        x.version(3, 0);
        x.hand(0, 0);
        x.hand(0, 0);
        for (int i : new int[] {-1, 2, 3, Integer.MIN_VALUE, Integer.MAX_VALUE}) {
            for (int what = 0; what < 7; what++) {
                Check.same("letter " + i, x.letter(0, i, what), NONE - 1);
            }
        }
        for (int person : new int[] {-1, 1, 2, 16, Integer.MIN_VALUE, Integer.MAX_VALUE}) {
            for (int what = 0; what < 7; what++) {
                Check.same("of person " + person, x.letter(person, 0, what), NONE - 1);
            }
        }
        for (int what : new int[] {-1, 7, 8, Integer.MIN_VALUE, Integer.MAX_VALUE}) {
            Check.same("what " + what, x.letter(0, 0, what), NONE - 1);
        }
        int[] due = {0, NONE, 9, 9, 1, 27, NONE};
        for (int what = 0; what < 7; what++) {
            Check.same("of the last, what " + what, x.letter(0, 1, what), due[what]);
        }
    }

    private static void whatsOnTheWay() {
        Check.sentence("16: NONE if there is none such, or another what.");
        NineCopies x = Given.writer(2, 2);
        Check.same("none yet", x.onWay(0, 0), NONE);
        x.version(2, 0);
        x.hand(0, 1);
        x.days(1);
        for (int i : new int[] {-1, 2, 60, Integer.MIN_VALUE, Integer.MAX_VALUE}) {
            for (int what = 0; what < 4; what++) {
                Check.same("letter " + i, x.onWay(i, what), NONE);
            }
        }
        for (int what : new int[] {-1, 4, 5, Integer.MIN_VALUE, Integer.MAX_VALUE}) {
            Check.same("what " + what, x.onWay(0, what), NONE);
        }
        int[] due = {1, 0, 1, 1};
        for (int what = 0; what < 4; what++) {
            Check.same("of the first, what " + what, x.onWay(0, what), due[what]);
            Check.same("of the last, what " + what, x.onWay(1, what), due[what]);
        }
    }

    private static void stampsOfUnlikeOnes() {
        Check.sentence("STAMPS: LEFT unlike ADDRESSES of his ROW; 6 STAMPS (NONE)");
        NineCopies x = Given.people(11);
        x.version(1, 0);
        for (int copies = 1; copies <= 3; copies++) {
            x.set(6, 0, copies);
            x.hand(0, 0);
        }
        Check.same("without a row", x.letter(0, 0, 6), NONE);
        x.address(0, 1);
        x.address(0, 1);
        Check.same("one of one", x.letter(0, 0, 6), 1);
        Check.same("two of one twice", x.letter(0, 1, 6), NONE);
        x.address(0, 2);
        Check.same("two of two", x.letter(0, 1, 6), 2);
        Check.same("three of two", x.letter(0, 2, 6), NONE);
        x.address(0, 3);
        Check.same("three of three", x.letter(0, 2, 6), 3);
        NineCopies y = Given.people(11);
        y.version(1, 0);
        y.hand(0, 0);
        for (int to = 1; to <= 8; to++) {
            y.address(0, to);
        }
        Check.same("nine of eight", y.letter(0, 0, 6), NONE);
        y.address(0, 10);
        Check.same("nine of nine", y.letter(0, 0, 6), 9);
    }

    private static void stampsAreLeast() {
        Check.sentence("STAMPS: by which the DAYS of THE POST to them, added, are least: that sum.");
        NineCopies x = Given.inTowns(0, 1, 2, 3, 4, 5, 0);
        x.version(1, 0);
        Check.tell(x, 2, "post 0 to 1 in 20;post 2 to 0 in 19;post 0 to 3 in 5;post 0 to 4 in 3;post 0 to 0 in 2;");
        Given.row(x, 0, 1, 2, 3, 4, 5, 6);
        int[] due = {0, 1, 3, 6, 11, 30, 50, NONE};
        for (int copies = 1; copies <= 7; copies++) {
            x.set(6, 0, copies);
            x.hand(0, 0);
            Check.same("stamps of " + copies, x.letter(0, 0, 6), due[copies]);
            x.burn(0, 0);
        }
        // The first of all people is the nearest, the last the farthest.
        NineCopies y = Given.inTowns(1, 2, 2, 2, 2, 2, 2, 2, 2, 2, 2, 2, 2, 2, 0, 3);
        y.version(1, 0);
        Check.tell(y, 2, "post 0 to 2 in 4;post 0 to 3 in 5;");
        Given.row(y, 14, 15, 2, 0);
        int[] dueOfThree = {0, 1, 5, 10};
        for (int copies = 1; copies <= 3; copies++) {
            y.set(6, 0, copies);
            y.hand(14, 0);
            Check.same("stamps of " + copies + " of three", y.letter(14, 0, 6), dueOfThree[copies]);
            y.burn(14, 0);
        }
    }

    private static void lettersOfAKind() {
        Check.sentence("17: 5 how many LETTERS of it are in hands and on the WAY, 6 1 if a PERSON HAD it, else 0");
        NineCopies x = Given.writer(9, 2);
        x.version(4, 0);
        Check.same("none", x.kind(0, 5), 0);
        Check.same("had by none", x.kind(0, 6), 0);
        x.hand(0, 0);
        x.hand(1, 1);
        x.days(1);
        Check.same("one in hands and two on the way", x.kind(0, 5), 3);
        Check.same("had", x.kind(0, 6), 1);
        Check.same("of the other", x.kind(1, 5), 1);
        x.days(1);
        Check.same("all in hands", x.kind(0, 5), 3);
        x.burn(1, 1);
        x.burn(1, 1);
        x.burn(0, 0);
        Check.same("none any more", x.kind(0, 5), 0);
        Check.same("had all the same", x.kind(0, 6), 1);
    }
}
