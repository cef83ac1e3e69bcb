/** The boundary cases of 2 TEXTS, a sentence a test: promises 9 to 12 and 18, and the laws as letter() tells them. */
public final class BoundsOfTextsTest {
    private static final int NONE = NineCopies.NONE;
    private static final String[] KEYWORDS = {"write", "ill"};
    private static final String[] NAMES = {"curse", "left", "kind", "lazy", "coin", "person", "day"};
    private static final String[] NAMES_OF_HANDS = {"days", "paper", "held", "marks"};

    public static void main(String[] args) {
        twentyBytesAtATime();
        fourHundredBytes();
        textsOfFourHundredBytes();
        highestByteFirst();
        endOfTheTape();
        endThatCutsAToken();
        threeTexts();
        tapeIsEmptyThen();
        textStaysWithAFault();
        emptyTexts();
        oneTextBehindTheOther();
        latestFault();
        whatsOfAFault();
        everySign();
        everySignAhead();
        blanksBetween();
        wordsAreWhole();
        numbersOfFourDigits();
        namesOfEachLaw();
        keywordsOfEachText();
        theEndIsTheLength();
        whatCannotStand();
        aPartByNought();
        townsOfThePost();
        daysOfThePost();
        firstByItsPlace();
        leastAtOnePlace();
        seventeenthLine();
        noLimitOfThePost();
        nineOpen();
        onlyOpenOnesCount();
        postBothWays();
        laterLineGoesAhead();
        oneForThoseNotTold();
        townsOfPost();
        intsWrap();
        partsGoTowardsNought();
        parts();
        firstLineThatIsSo();
        noLineThatIsSo();
        comparisons();
        writeIsHeldToNine();
        illIsHeldTo999();
        namesOfALetter();
        writeAsksNeither();
        Check.finish("BoundsOfTextsTest");
    }

    private static NineCopies withLetter(int curse, int marks, int copies) {
        NineCopies x = Given.people(1);
        x.version(curse, marks);
        Given.rules(x, copies, 9);
        x.hand(0, 0);
        return x;
    }

    private static int write(NineCopies x, String law) {
        Check.same("lines of '" + law + "'", Check.tell(x, 0, law), law.split(";").length);
        return x.letter(0, 0, 4);
    }

    private static int ill(NineCopies x, String law) {
        Check.same("lines of '" + law + "'", Check.tell(x, 1, law), law.split(";").length);
        return x.letter(0, 0, 5);
    }

    /** Whether this is so, asked of the law of hands. */
    private static void isSo(NineCopies x, String test, boolean due) {
        Check.same(test, write(x, "write 7 when " + test + ";write 3;"), due ? 7 : 3);
    }

    private static int blank(NineCopies x) {
        return x.feed(0x20202020, 0x20202020, 0x20202020, 0x20202020, 0x20202020);
    }

    private static void twentyBytesAtATime() {
        Check.sentence("9: Twenty bytes come behind the TAPE: how many it has.");
        NineCopies x = new NineCopies();
        Check.same("first", blank(x), 20);
        Check.same("second", blank(x), 40);
        x.end(1);
        Check.same("behind one", blank(x), 21);
        x.end(0);
        Check.same("behind none", blank(x), 20);
    }

    private static void fourHundredBytes() {
        Check.sentence("9: NONE, and nothing comes, if there would be more than 400.");
        NineCopies x = new NineCopies();
        for (int i = 1; i <= 19; i++) {
            blank(x);
        }
        Check.same("400", blank(x), 400);
        Check.same("420", blank(x), NONE);
        Check.yes("400 are there", x.end(400));
        Check.no("no more", x.end(401));
        x.end(381);
        Check.same("401", x.feed(-1, -1, -1, -1, -1), NONE);
        Check.no("nothing came", x.end(382));
        Check.yes("381 are there", x.end(381));
        Check.same("they are blanks", x.text(0), 0);
        Check.same("behind it there is room", blank(x), 20);
        for (int i = 2; i <= 19; i++) {
            blank(x);
        }
        x.end(379);
        Check.same("399", blank(x), 399);
        x.end(380);
        Check.same("400 again", blank(x), 400);
    }

    private static void textsOfFourHundredBytes() {
        Check.sentence("9: the TAPE (400 bytes) as a text");
        NineCopies x = withLetter(5, 0, 9);
        String ones = "write 1" + "+1".repeat(196) + ";";
        Check.lines(x, 0, ones, 1);
        Check.same("nine at the most", x.letter(0, 0, 4), 9);
        Check.lines(x, 1, "ill 100" + "+1".repeat(196) + ";", 1);
        Check.same("all of them", x.letter(0, 0, 5), 296);
        Check.faulty(x, 0, ones.substring(0, 399) + "1", 1, 400);
        Check.faulty(x, 0, ones.substring(0, 399) + "x", 1, 399);
        Check.faulty(x, 0, ones.substring(0, 397) + "+ 1", 1, 400);
        Check.faulty(x, 0, ";".repeat(400), 1, 0);
        Check.faulty(x, 0, " ".repeat(399) + ";", 1, 399);
        Check.faulty(x, 0, " ".repeat(395) + "write", 1, 400);
        Check.faulty(x, 0, "w".repeat(400), 1, 0);
        Check.faulty(x, 0, "1".repeat(400), 1, 0);
        Check.faulty(x, 0, "write " + "1".repeat(394), 1, 6);
        Check.lines(x, 0, "\n".repeat(400), 0);
    }

    private static void endThatCutsAToken() {
        Check.sentence("10: The TAPE has its first n bytes alone");
        NineCopies x = new NineCopies();
        Check.tape(x, "writewrite");
        x.end(5);
        Check.same("a word that is cut", x.text(0), NONE);
        Check.same("ends there", x.fault(1), 5);
        Check.tape(x, "write 12345;");
        x.end(7);
        Check.same("a number that is cut", x.text(0), NONE);
        Check.same("ends there too", x.fault(1), 7);
        Check.tape(x, "write 1;;");
        x.end(8);
        Check.same("a sign ahead of which it is cut", x.text(0), 1);
    }

    private static void highestByteFirst() {
        Check.sentence("9: of each number the highest first");
        for (int i = 0; i < 20; i++) {
            int[] five = {0x20202020, 0x20202020, 0x20202020, 0x20202020, 0x20202020};
            int shift = 24 - 8 * (i % 4);
            five[i / 4] = five[i / 4] & ~(255 << shift) | 255 << shift;
            NineCopies x = new NineCopies();
            x.feed(five[0], five[1], five[2], five[3], five[4]);
            Check.same("text", x.text(0), NONE);
            Check.same("the place of byte " + i, x.fault(1), i);
        }
    }

    private static void endOfTheTape() {
        Check.sentence("10: true; false, changing nothing, if it has not so many, or n is below 0.");
        NineCopies x = new NineCopies();
        Check.yes("none of none", x.end(0));
        Check.no("one of none", x.end(1));
        Check.no("below none", x.end(-1));
        Check.tape(x, "write 1;write 22222;");
        Check.no("one more", x.end(21));
        Check.no("far more", x.end(Integer.MAX_VALUE));
        Check.no("below", x.end(-1));
        Check.no("far below", x.end(Integer.MIN_VALUE));
        Check.yes("all", x.end(20));
        Check.same("all are there", x.text(0), NONE);
        Check.same("where it ends not well", x.fault(1), 14);
        Check.tape(x, "write 1;write 22222;");
        Check.yes("the first", x.end(8));
        Check.no("what was behind them is gone", x.end(9));
        Check.same("they alone", x.text(0), 1);
        Check.tape(x, "write 1;write 22222;");
        Check.yes("none", x.end(0));
        Check.same("an empty one", x.text(0), 0);
    }

    private static void threeTexts() {
        Check.sentence("11: NONE: no such one (fault() tells 0)");
        for (int k : new int[] {-1, 3, 4, Integer.MIN_VALUE, Integer.MAX_VALUE}) {
            NineCopies x = new NineCopies();
            Check.faulty(x, 0, "write", 1, 5);
            Check.tape(x, "");
            Check.same("no text " + k, x.text(k), NONE);
            Check.same("no fault", x.fault(0), 0);
            Check.same("no place", x.fault(1), NONE);
        }
        NineCopies x = new NineCopies();
        Check.lines(x, 0, "write 1;", 1);
        Check.lines(x, 2, "post 0 to 1 in 2;post 0 to 1 in 3;", 2);
        Check.same("the first", x.look(10), 1);
        Check.same("the second", x.look(11), 0);
        Check.same("the third", x.look(12), 2);
    }

    private static void tapeIsEmptyThen() {
        Check.sentence("11: the TAPE is empty in each case");
        String[] texts = {"write 1;", "write 1", "ill 1;", "ill 1", "post 0 to 1 in 2;", "post 0 to 1 in 0;", "write 1;", ""};
        int[] which = {0, 0, 1, 1, 2, 2, 3, -1};
        for (int i = 0; i < texts.length; i++) {
            NineCopies x = new NineCopies();
            Check.tape(x, texts[i]);
            x.text(which[i]);
            Check.no("no byte is left of '" + texts[i] + "'", x.end(1));
            Check.same("the next comes from the beginning", blank(x), 20);
        }
    }

    private static void textStaysWithAFault() {
        Check.sentence("11: a FAULT (the TEXT stays as it was)");
        NineCopies x = withLetter(5, 0, 9);
        Check.lines(x, 0, "write 4 when 1=2;write 6;", 2);
        Check.lines(x, 1, "ill 40 when 1=2;ill 60;", 2);
        Check.lines(x, 2, "post 0 to 1 in 7;post 2 to 2 in 8;", 2);
        Check.faulty(x, 0, "write 1;write 2;write 3", 1, 23);
        Check.faulty(x, 1, "ill 1;ill 2;ill 3/0;", 2, 18);
        Check.faulty(x, 2, "post 0 to 1 in 3;post 2 to 2 in 3;post 4 to 4 in 21;", 2, 49);
        x.text(3);
        Check.same("hands", x.letter(0, 0, 4), 6);
        Check.same("luck", x.letter(0, 0, 5), 60);
        Check.same("the post", x.post(0, 1), 7);
        Check.same("the post in town", x.post(2, 2), 8);
        for (int what = 10; what <= 12; what++) {
            Check.same("lines", x.look(what), 2);
        }
    }

    private static void emptyTexts() {
        Check.sentence("TEXTS (empty at first)");
        NineCopies x = withLetter(5, 0, 9);
        Check.same("hands tell 1", x.letter(0, 0, 4), 1);
        Check.same("luck tells curse times left", x.letter(0, 0, 5), 45);
        Check.same("the post tells 1", x.post(0, 5), 1);
        Check.lines(x, 0, "write 4;", 1);
        Check.lines(x, 1, "ill 4;", 1);
        Check.lines(x, 2, "post 0 to 5 in 4;", 1);
        for (int k = 0; k < 3; k++) {
            Check.lines(x, k, k == 1 ? " \n" : "", 0);
            Check.same("no lines", x.look(10 + k), 0);
        }
        Check.same("hands tell 1 again", x.letter(0, 0, 4), 1);
        Check.same("luck tells curse times left again", x.letter(0, 0, 5), 45);
        Check.same("the post tells 1 again", x.post(0, 5), 1);
    }

    private static void oneTextBehindTheOther() {
        Check.sentence("11: The TAPE, empty then, is TEXT k: how many lines.");
        NineCopies x = withLetter(5, 0, 9);
        String begin = "write 1 when 1=2;".repeat(15);
        for (int i = 0; i < 12; i++) {
            Check.lines(x, 0, begin + "write " + i % 10 + " when 1 + 1 = 2 and 2 = 1 + 1;", 16);
            Check.same("the text of now", x.letter(0, 0, 4), i % 10);
        }
        NineCopies y = withLetter(5, 0, 9);
        for (int i = 0; i < 12; i++) {
            Check.faulty(y, 1, "ill 1" + "+1".repeat(150), 1, 305);
            Check.lines(y, 1, "ill 100 + " + i + ";", 1);
            Check.same("luck of now", y.letter(0, 0, 5), 100 + i);
        }
    }

    private static void latestFault() {
        Check.sentence("12: Of the latest text() what 0 the FAULT (0 without one), 1 its place (NONE).");
        NineCopies x = new NineCopies();
        Check.same("none yet", x.fault(0), 0);
        Check.same("no place yet", x.fault(1), NONE);
        Check.faulty(x, 2, "post 6", 2, 5);
        x.feed(0, 0, 0, 0, 0);
        x.end(3);
        Check.same("it stays with the next tape", x.fault(0), 2);
        Check.same("its place too", x.fault(1), 5);
        Check.lines(x, 1, "", 0);
        Check.faulty(x, 0, ";", 1, 0);
        Check.lines(x, 0, "", 0);
    }

    private static void whatsOfAFault() {
        Check.sentence("12: NONE for another what.");
        NineCopies x = new NineCopies();
        Check.faulty(x, 2, "post 6", 2, 5);
        for (int what : new int[] {-1, 2, 3, Integer.MIN_VALUE, Integer.MAX_VALUE}) {
            Check.same("what " + what, x.fault(what), NONE);
        }
    }

    private static boolean isLetter(int sign) {
        return sign >= 'a' && sign <= 'z' || sign >= 'A' && sign <= 'Z';
    }

    private static boolean isDigit(int sign) {
        return sign >= '0' && sign <= '9';
    }

    private static boolean isBlank(int sign) {
        return sign == 32 || sign == 10;
    }

    private static void everySign() {
        Check.sentence("TOKENS: letters; digits; ; + - * / ( ) < = > . Blanks (32, 10) between.");
        NineCopies x = new NineCopies();
        for (int sign = 0; sign < 256; sign++) {
            x = sign % 40 == 0 ? new NineCopies() : x;
            String text = "write 1" + (char) sign + ";";
            if (isBlank(sign) || isDigit(sign)) {
                Check.lines(x, 0, text, 1);
            } else if (";+-*/".indexOf(sign) >= 0) {
                Check.faulty(x, 0, text, 1, 8);
            } else {
                Check.faulty(x, 0, text, 1, 7);
            }
        }
    }

    private static void everySignAhead() {
        Check.sentence("FAULTS: 1 what can't stand there");
        NineCopies x = new NineCopies();
        for (int sign = 0; sign < 256; sign++) {
            x = sign % 40 == 0 ? new NineCopies() : x;
            String text = (char) sign + "post 1 to 2 in 3;";
            if (isBlank(sign)) {
                Check.lines(x, 2, text, 1);
            } else {
                Check.faulty(x, 2, text, 1, 0);
            }
        }
    }

    private static void blanksBetween() {
        Check.sentence("Blanks (32, 10) between.");
        NineCopies x = new NineCopies();
        Check.lines(x, 0, "write1when1<2and2<3;write\n 2 \n when \n1\n=\n1\n;", 2);
        Check.lines(x, 2, "post0to1in2;\n post 0\nto 1 in\n2 ; \n", 2);
        Check.lines(x, 0, " \n ", 0);
        Check.faulty(x, 0, "writ e 1;", 1, 0);
        Check.faulty(x, 0, "write 1 2;", 1, 8);
        Check.faulty(x, 0, "write\n12\n345;", 1, 9);
        Check.faulty(x, 2, "post 0 to 1 in 1 0;", 1, 17);
    }

    private static void wordsAreWhole() {
        Check.sentence("letters as many as stand together are KEYWORDS or none");
        NineCopies x = new NineCopies();
        Check.faulty(x, 0, "writ 1;", 1, 0);
        Check.faulty(x, 0, "writes 1;", 1, 0);
        Check.faulty(x, 0, "writewrite 1;", 1, 0);
        Check.faulty(x, 0, "WRITE 1;", 1, 0);
        Check.faulty(x, 0, "writeA 1;", 1, 0);
        Check.faulty(x, 0, "writeZ 1;", 1, 0);
        Check.faulty(x, 0, "write curs;", 1, 6);
        Check.faulty(x, 0, "write curses;", 1, 6);
        Check.faulty(x, 0, "write CURSE;", 1, 6);
        Check.faulty(x, 0, "write curse left;", 1, 12);
        Check.faulty(x, 0, "write 1 when1<2and3<4or;", 1, 23);
        Check.faulty(x, 0, "write 1 whenever 1<2;", 1, 8);
        Check.faulty(x, 0, "write 1 when notnot 1<2;", 1, 13);
        Check.faulty(x, 2, "pos 1 to 2 in 3;", 1, 0);
        Check.faulty(x, 2, "post 1 t 2 in 3;", 1, 7);
        Check.faulty(x, 2, "post 1 too 2 in 3;", 1, 7);
        Check.faulty(x, 2, "post 1 to 2 inn 3;", 1, 12);
        Check.lines(x, 0, "write day;write days;", 2);
        String[] words = {"write", "when", "or", "and", "not", "curse", "left", "kind", "lazy", "coin", "person", "day",
            "days", "paper", "held", "marks"};
        NineCopies y = new NineCopies();
        for (int i = 0; i < words.length; i++) {
            y = i % 4 == 0 ? new NineCopies() : y;
            String text = "write 1 when not 1=1 or 1=2 and 1<" + (i < 5 ? "1" : words[i]) + ";";
            int at = text.indexOf(words[i]);
            Check.lines(y, 0, text, 1);
            for (int place : new int[] {at, at + words[i].length() - 1}) {
                Check.faulty(y, 0, text.substring(0, place) + "x" + text.substring(place + 1), 1, at);
            }
        }
    }

    private static void numbersOfFourDigits() {
        Check.sentence("digits as many as stand together NUMBERS of 1 to 4 digits or none");
        NineCopies x = withLetter(5, 0, 9);
        Check.same("one digit", write(x, "write 7;"), 7);
        Check.same("four digits", write(x, "write 0008;"), 8);
        Check.same("the least", write(x, "write 0;"), 0);
        Check.same("the least of four", write(x, "write 0000;"), 0);
        isSo(x, "9999 = 9998 + 1", true);
        isSo(x, "1234=1000+200+30+4", true);
        Check.faulty(x, 0, "write 10000;", 1, 6);
        Check.faulty(x, 0, "write 00001;", 1, 6);
        Check.faulty(x, 0, "write 00000;", 1, 6);
        Check.faulty(x, 0, "write 1/00001;", 1, 8);
        Check.faulty(x, 0, "write 1/10000;", 1, 8);
        Check.lines(x, 0, "write 1/9999;write 1/0001;", 2);
        Check.lines(x, 2, "post 0005 to 0000 in 0020;", 1);
        Check.faulty(x, 2, "post 00005 to 0 in 1;", 1, 5);
        Check.faulty(x, 2, "post 5 to 00000 in 1;", 1, 10);
        Check.faulty(x, 2, "post 5 to 0 in 00001;", 1, 15);
    }

    private static void namesOfEachLaw() {
        Check.sentence("U = NUMBER | curse | left | kind | lazy | coin | person | day, of HANDS besides | days | paper | held | marks.");
        for (int k = 0; k < 2; k++) {
            NineCopies x = new NineCopies();
            for (String name : NAMES) {
                Check.lines(x, k, KEYWORDS[k] + " " + name + ";", 1);
            }
            for (String name : NAMES_OF_HANDS) {
                if (k == 0) {
                    Check.lines(x, 0, "write " + name + ";", 1);
                } else {
                    Check.faulty(x, 1, "ill " + name + ";", 1, 4);
                    Check.faulty(x, 1, "ill 1 when 1<" + name + ";", 1, 13);
                }
            }
            for (String word : new String[] {"when", "or", "and", "not", "write", "ill", "post", "to", "in", "none"}) {
                Check.faulty(x, k, KEYWORDS[k] + " " + word + ";", 1, k == 0 ? 6 : 4);
            }
        }
    }

    private static void keywordsOfEachText() {
        Check.sentence("KEYWORDS (those told here for that text) or none");
        String[] lines = {"write 1;", "ill 1;", "post 1 to 1 in 1;"};
        NineCopies x = new NineCopies();
        for (int k = 0; k < 3; k++) {
            for (int other = 0; other < 3; other++) {
                if (k == other) {
                    Check.lines(x, k, lines[other], 1);
                } else {
                    Check.faulty(x, k, lines[other], 1, 0);
                    Check.faulty(x, k, lines[k] + lines[other], 1, lines[k].length());
                }
            }
        }
        Check.faulty(x, 2, "post person to 1 in 1;", 1, 5);
        Check.faulty(x, 2, "post 1 to 1 in day;", 1, 15);
    }

    private static void theEndIsTheLength() {
        Check.sentence("1 what can't stand there (the end: the text's length)");
        String[] hands = {"write", "write ", "write\n\n", "write 1", "write 1 ", "write 1+", "write 1-", "write 1*", "write 1/",
            "write 1 when", "write 1 when ", "write 1 when 1", "write 1 when 1<", "write 1 when 1=1", "write 1 when not",
            "write 1 when (", "write 1 when (1=1", "write 1 when (1=1)", "write 1 when 1=1 and", "write 1 when 1=1 or",
            "write 1;write", "write 1;write 2 ", "write 1" + "+1".repeat(196) + "+"};
        NineCopies x = new NineCopies();
        for (String text : hands) {
            Check.faulty(x, 0, text, 1, text.length());
        }
        NineCopies y = new NineCopies();
        String[] posts = {"post", "post ", "post 1", "post 1 to", "post 1 to 2", "post 1 to 2 in", "post 1 to 2 in 3",
            "post 1 to 2 in 3 \n", "post 1 to 2 in 3;post"};
        for (String text : posts) {
            Check.faulty(y, 2, text, 1, text.length());
        }
        for (String text : new String[] {"ill", "ill 1", "ill 1 when", "ill 1 when 1=1"}) {
            Check.faulty(y, 1, text, 1, text.length());
        }
    }

    private static void whatCannotStand() {
        Check.sentence("E [when B] ; B = A {or A}. A = C {and C}. C = E (< | = | >) E | not C | ( B ). E = T {(+ | -) T}. T = U {* U | / NUMBER}.");
        NineCopies x = new NineCopies();
        Check.faulty(x, 0, "write;", 1, 5);
        Check.faulty(x, 0, "write +1;", 1, 6);
        Check.faulty(x, 0, "write -1;", 1, 6);
        Check.faulty(x, 0, "write (1);", 1, 6);
        Check.faulty(x, 0, "write 1<2;", 1, 7);
        Check.faulty(x, 0, "write 1 or 2;", 1, 8);
        Check.faulty(x, 0, "write 1 when;", 1, 12);
        Check.faulty(x, 0, "write 1 when 1;", 1, 14);
        Check.faulty(x, 0, "write 1 when 1 2;", 1, 15);
        Check.faulty(x, 0, "write 1 when 1<2<3;", 1, 16);
        Check.faulty(x, 0, "write 1 when (1);", 1, 15);
        Check.faulty(x, 0, "write 1 when (1+1)<3;", 1, 17);
        Check.faulty(x, 0, "write 1 when 1<(2);", 1, 15);
        Check.faulty(x, 0, "write 1 when 1<not 2;", 1, 15);
        Check.faulty(x, 0, "write 1 when ();", 1, 14);
        Check.faulty(x, 0, "write 1 when (1<2;", 1, 17);
        Check.faulty(x, 0, "write 1 when 1<2);", 1, 16);
        Check.faulty(x, 0, "write 1 when (1<2) (3<4);", 1, 19);
        Check.faulty(x, 0, "write 1 when 1<2 or or 3<4;", 1, 20);
        Check.faulty(x, 0, "write 1 when and 1<2;", 1, 13);
        Check.faulty(x, 0, "write 1 when 1=<2;", 1, 15);
        Check.faulty(x, 0, "write 2/curse;", 1, 8);
        Check.faulty(x, 0, "write 2//1;", 1, 8);
        Check.faulty(x, 0, "write 2*(3);", 1, 8);
        Check.faulty(x, 0, "write 1 when 1<2 write 2;", 1, 17);
        Check.lines(x, 0, "write curse/2*left/3 when not(1+2<3 and not 1=1 or (1>2));", 1);
    }

    private static void aPartByNought() {
        Check.sentence("2 (at the NUMBER) a part by 0");
        NineCopies x = withLetter(5, 0, 9);
        Check.faulty(x, 0, "write 4/0;", 2, 8);
        Check.faulty(x, 0, "write 4/ 0000;", 2, 9);
        Check.faulty(x, 0, "write 4/1/0;", 2, 10);
        Check.faulty(x, 0, "write 4 when 1<1/0;", 2, 17);
        Check.faulty(x, 1, "ill 4/0;", 2, 6);
        Check.same("by 1", write(x, "write 4/1;"), 4);
        Check.same("by 0001", write(x, "write 4/0001;"), 4);
        Check.same("times 0", write(x, "write 4*0;"), 0);
    }

    private static void townsOfThePost() {
        Check.sentence("2 (at the NUMBER) a TOWN above 5");
        NineCopies x = new NineCopies();
        Check.lines(x, 2, "post 5 to 0 in 3;", 1);
        Check.same("the most and the least", x.post(5, 0), 3);
        Check.lines(x, 2, "post 0 to 5 in 4;", 1);
        Check.same("the other way round", x.post(0, 5), 4);
        Check.faulty(x, 2, "post 6 to 0 in 3;", 2, 5);
        Check.faulty(x, 2, "post 0 to 6 in 3;", 2, 10);
        Check.faulty(x, 2, "post 9999 to 0 in 3;", 2, 5);
        Check.faulty(x, 2, "post 0 to 9999 in 3;", 2, 10);
        Check.faulty(x, 2, "post   0006 to 0 in 3;", 2, 7);
    }

    private static void daysOfThePost() {
        Check.sentence("2 (at the NUMBER) DAYS 0 or above 20; DAYS 1 .. 20");
        NineCopies x = new NineCopies();
        Check.lines(x, 2, "post 1 to 2 in 20;", 1);
        Check.same("the most", x.post(1, 2), 20);
        Check.lines(x, 2, "post 1 to 2 in 1;", 1);
        Check.same("the least", x.post(1, 2), 1);
        Check.faulty(x, 2, "post 1 to 2 in 0;", 2, 15);
        Check.faulty(x, 2, "post 1 to 2 in 0000;", 2, 15);
        Check.faulty(x, 2, "post 1 to 2 in 21;", 2, 15);
        Check.faulty(x, 2, "post 1 to 2 in  9999;", 2, 16);
    }

    private static void firstByItsPlace() {
        Check.sentence("FAULTS, the first by its place");
        NineCopies x = new NineCopies();
        Check.faulty(x, 0, "write 4/0 0;", 2, 8);
        Check.faulty(x, 0, "write 4 4/0;", 1, 8);
        Check.faulty(x, 0, "write 4/0/0;", 2, 8);
        Check.faulty(x, 2, "post 6 to 7 in 0;", 2, 5);
        Check.faulty(x, 2, "post 6 6 6", 2, 5);
        Check.faulty(x, 2, "post 5 to to in 0;", 1, 10);
        Check.faulty(x, 0, "write 1;".repeat(15) + "write 1/0;write 1;", 2, 128);
        Check.faulty(x, 0, "write 1;".repeat(15) + "write 1,;write 1;", 1, 127);
        Check.faulty(x, 0, "write 1;".repeat(16) + "write 1/0", 3, 128);
        Check.faulty(x, 0, "write 1/0 when " + "(".repeat(9), 2, 8);
        Check.faulty(x, 0, "write 1 when " + "(".repeat(9) + "1/0", 3, 21);
        Check.faulty(x, 0, "write 1 when " + "(".repeat(8) + "1/0<" + "(", 2, 23);
    }

    private static void leastAtOnePlace() {
        Check.sentence("FAULTS: at one place the least");
        NineCopies x = new NineCopies();
        Check.faulty(x, 0, "write 1/00000;", 1, 8);
        Check.faulty(x, 2, "post 00006 to 1 in 1;", 1, 5);
        Check.faulty(x, 2, "post 1 to 1 in 00021;", 1, 15);
        Check.faulty(x, 2, "post 1 6", 1, 7);
        Check.faulty(x, 0, "write 1;".repeat(16) + ";", 1, 128);
        Check.faulty(x, 0, "write 1;".repeat(16) + "ill 1;", 1, 128);
        Check.faulty(x, 0, "write 1;".repeat(15) + "write 1 write 1;", 1, 128);
        Check.faulty(x, 0, "write 1 when " + "(".repeat(8) + "1(", 1, 22);
        Check.faulty(x, 0, "write 1 when " + "(".repeat(8) + "1=1 not", 1, 25);
        Check.faulty(x, 0, "write 1 when " + "(".repeat(8) + "1=(", 1, 23);
        Check.faulty(x, 0, "write 1 when " + "(".repeat(8) + ")", 1, 21);
    }

    private static void seventeenthLine() {
        Check.sentence("3 (at its KEYWORD) the 17th line of a LAW");
        String[] lines = {"write 1;", "ill 1;"};
        for (int k = 0; k < 2; k++) {
            NineCopies x = new NineCopies();
            String sixteen = lines[k].repeat(16);
            Check.lines(x, k, lines[k].repeat(15), 15);
            Check.lines(x, k, sixteen, 16);
            Check.same("sixteen", x.look(10 + k), 16);
            Check.lines(x, k, sixteen + " \n", 16);
            Check.faulty(x, k, sixteen + lines[k], 3, sixteen.length());
            Check.faulty(x, k, sixteen + " \n" + lines[k] + lines[k], 3, sixteen.length() + 2);
            Check.faulty(x, k, sixteen + KEYWORDS[k], 3, sixteen.length());
            Check.same("sixteen stay", x.look(10 + k), 16);
        }
    }

    private static void noLimitOfThePost() {
        Check.sentence("the 17th line of a LAW (not of THE POST)");
        NineCopies x = new NineCopies();
        Check.lines(x, 2, "post0to1in1;".repeat(16) + "post0to1in2;", 17);
        Check.same("the 17th", x.post(0, 1), 2);
        Check.lines(x, 2, "post0to1in1;".repeat(32) + "post0to1in3;", 33);
        Check.same("the 33rd", x.post(0, 1), 3);
        Check.same("as many", x.look(12), 33);
    }

    private static void nineOpen() {
        Check.sentence("3 (at it) the 9th ( or not that is open.");
        String begin = "write 1 when ";
        NineCopies x = new NineCopies();
        Check.lines(x, 0, begin + "(".repeat(8) + "1=1" + ")".repeat(8) + ";", 1);
        Check.lines(x, 0, begin + "not ".repeat(8) + "1=1;", 1);
        Check.lines(x, 0, begin + "not(".repeat(4) + "1=1" + ")".repeat(4) + ";", 1);
        Check.lines(x, 1, "ill 1 when " + "(".repeat(8) + "1=1" + ")".repeat(8) + ";", 1);
        Check.faulty(x, 0, begin + "(".repeat(9) + "1=1" + ")".repeat(9) + ";", 3, 21);
        Check.faulty(x, 0, begin + "not ".repeat(9) + "1=1;", 3, 45);
        Check.faulty(x, 0, begin + "not(".repeat(4) + "(1=1)))));", 3, 29);
        Check.faulty(x, 0, begin + "not(".repeat(4) + "not 1=1)))));", 3, 29);
        Check.faulty(x, 0, begin + "(not ".repeat(4) + " not 1=1))));", 3, 34);
        Check.faulty(x, 1, "ill 1 when " + "(".repeat(9) + "1=1" + ")".repeat(9) + ";", 3, 19);
        Check.faulty(x, 0, begin + "(".repeat(8) + "1=1 and (", 3, 29);
        Check.faulty(x, 0, begin + "(".repeat(8) + "1=1 or not", 3, 28);
        Check.faulty(x, 0, begin + "(".repeat(20), 3, 21);
    }

    private static void onlyOpenOnesCount() {
        Check.sentence("the 9th ( or not that is open (not one that is closed)");
        String begin = "write 1 when ";
        String eight = "(".repeat(8) + "1=1" + ")".repeat(8);
        NineCopies x = new NineCopies();
        Check.lines(x, 0, begin + "(1=1) or ".repeat(9) + "(1=1);", 1);
        Check.lines(x, 0, begin + "not 1=1 and ".repeat(9) + "not 1=1;", 1);
        Check.lines(x, 0, begin + eight + " and " + eight + ";", 1);
        Check.lines(x, 0, begin + eight + ";write 2 when " + eight + ";", 2);
        Check.lines(x, 0, begin + "not ".repeat(8) + "1=1 or " + "not ".repeat(8) + "1=1;", 1);
        Check.lines(x, 0, begin + "(".repeat(8) + "1=1) and (1=1" + ")".repeat(8) + ";", 1);
        Check.lines(x, 0, begin + "(".repeat(7) + "not 1=1 and not 1=1" + ")".repeat(7) + ";", 1);
        Check.faulty(x, 0, begin + "(".repeat(8) + "1=1) and ((1=1", 3, 31);
        Check.faulty(x, 0, begin + "(".repeat(7) + "not 1=1 and not (", 3, 36);
    }

    private static void postBothWays() {
        Check.sentence("THE POST: both ways");
        NineCopies x = new NineCopies();
        Check.lines(x, 2, "post 1 to 4 in 6;", 1);
        Check.same("there", x.post(1, 4), 6);
        Check.same("and back", x.post(4, 1), 6);
        Check.same("not in the first town", x.post(1, 1), 1);
        Check.same("not in the second town", x.post(4, 4), 1);
        Check.lines(x, 2, "post 3 to 3 in 5;", 1);
        Check.same("in town", x.post(3, 3), 5);
    }

    private static void laterLineGoesAhead() {
        Check.sentence("THE POST: a later line goes ahead of an earlier one");
        NineCopies x = new NineCopies();
        Check.lines(x, 2, "post 1 to 4 in 6;post 4 to 1 in 8;", 2);
        Check.same("the later one", x.post(1, 4), 8);
        Check.same("both ways", x.post(4, 1), 8);
        Check.lines(x, 2, "post 4 to 1 in 8;post 1 to 4 in 2;post 2 to 4 in 9;", 3);
        Check.same("also if it is less", x.post(4, 1), 2);
    }

    private static void oneForThoseNotTold() {
        Check.sentence("THE POST: 1 for those that it does not tell");
        NineCopies x = new NineCopies();
        Check.lines(x, 2, "post 0 to 1 in 20;post 5 to 5 in 7;", 2);
        for (int a = 0; a < 6; a++) {
            for (int b = 0; b < 6; b++) {
                int due = a + b == 1 ? 20 : a == 5 && b == 5 ? 7 : 1;
                Check.same("from " + a + " to " + b, x.post(a, b), due);
            }
        }
        Check.lines(x, 2, "post 2 to 3 in 4;", 1);
        Check.same("told no more", x.post(0, 1), 1);
    }

    private static void townsOfPost() {
        Check.sentence("18: NONE if there is none such.");
        NineCopies x = new NineCopies();
        for (int town : new int[] {-1, 6, Integer.MIN_VALUE, Integer.MAX_VALUE}) {
            Check.same("from " + town, x.post(town, 0), NONE);
            Check.same("to " + town, x.post(5, town), NONE);
            Check.same("both " + town, x.post(town, town), NONE);
        }
        Check.same("the least", x.post(0, 0), 1);
        Check.same("the most", x.post(5, 5), 1);
        Check.same("both", x.post(5, 0), 1);
    }

    private static void intsWrap() {
        Check.sentence("Ints, which wrap");
        NineCopies x = withLetter(5, 0, 9);
        isSo(x, "9999*9999*21 > 0", true);
        isSo(x, "9999*9999*22 < 0", true);
        isSo(x, "9999*9999*21 + 9999*9999 < 0", true);
        isSo(x, "9999*9999*21 + 9999*4000 > 0", true);
        isSo(x, "0 - 9999*9999*21 - 9999*9999 > 0", true);
        isSo(x, "0 - 9999*9999*21 - 9999*4000 < 0", true);
        // 2 to the 31st, and 2 to the 32nd.
        isSo(x, "8192*8192*32 < 0", true);
        isSo(x, "8192*8192*32 - 1 > 0", true);
        isSo(x, "8192*8192*64 = 0", true);
    }

    private static void partsGoTowardsNought() {
        Check.sentence("/ goes towards 0");
        NineCopies x = new NineCopies();
        x.person(0, 2, 0);
        x.version(5, 0);
        x.set(7, 0, 1);
        x.hand(0, 0);
        x.days(2);
        int[] days = {-1, -2, -3, -4, -5, -6, -7};
        for (int d : days) {
            Check.same("days", write(x, "write 9+days;"), 9 + d);
            Check.same("half of " + d, write(x, "write 9+days/2;"), 9 - -d / 2);
            Check.same("a third of " + d, write(x, "write 9+days/3;"), 9 - -d / 3);
            x.days(1);
        }
        NineCopies y = withLetter(5, 0, 9);
        Check.same("less than half", write(y, "write 1/2;"), 0);
        Check.same("half of one more", write(y, "write 9/2;"), 4);
    }

    private static void parts() {
        Check.sentence("E = T {(+ | -) T}. T = U {* U | / NUMBER}.");
        NineCopies x = withLetter(5, 0, 9);
        Check.same("less from the left", write(x, "write 9-5-2;"), 2);
        Check.same("times ahead of and", write(x, "write 1+2*3;"), 7);
        Check.same("times ahead of less", write(x, "write 9-2*3;"), 3);
        Check.same("parts from the left", write(x, "write 16/2/2*2;"), 8);
        Check.same("a part ahead of times", write(x, "write 7/2*2;"), 6);
        Check.same("times ahead of a part", write(x, "write 7*2/2;"), 7);
        Check.same("a part ahead of less", write(x, "write 9-7/2;"), 6);
    }

    private static void firstLineThatIsSo() {
        Check.sentence("E of the first line of HANDS whose B is so, or that has none; ILL luck likewise");
        NineCopies x = withLetter(5, 0, 9);
        Check.same("the first", write(x, "write 2 when 1=1;write 3 when 1=1;"), 2);
        Check.same("the second", write(x, "write 2 when 1=2;write 3 when 1=1;write 4;"), 3);
        Check.same("one that has none", write(x, "write 2 when 1=2;write 4;write 5;"), 4);
        Check.same("one that has none goes ahead", write(x, "write 4;write 2 when 1=1;"), 4);
        Check.same("the last of sixteen", write(x, "write 2 when 1=2;".repeat(15) + "write 4;"), 4);
        Check.same("the first of luck", ill(x, "ill 2 when 1=1;ill 3;"), 2);
        Check.same("the second of luck", ill(x, "ill 2 when 1=2;ill 3;"), 3);
        Check.same("the last of sixteen of luck", ill(x, "ill 2 when 1=2;".repeat(15) + "ill 400;"), 400);
    }

    private static void noLineThatIsSo() {
        Check.sentence("(none: 1); (none: CURSE times LEFT)");
        NineCopies x = withLetter(5, 0, 9);
        Check.same("no line", x.letter(0, 0, 4), 1);
        Check.same("none is so", write(x, "write 5 when 1=2;write 6 when not 1=1;"), 1);
        Check.same("no line of luck", x.letter(0, 0, 5), 45);
        Check.same("none of luck is so", ill(x, "ill 5 when 1=2;ill 6 when not 1=1;"), 45);
        Check.same("curse 0", withLetter(0, 0, 9).letter(0, 0, 5), 0);
        Check.same("the most", withLetter(9, 0, 9).letter(0, 0, 5), 81);
        Check.same("the least left", withLetter(9, 0, 1).letter(0, 0, 5), 9);
    }

    private static void comparisons() {
        Check.sentence("C = E (< | = | >) E | not C | ( B ). A = C {and C}. B = A {or A}.");
        NineCopies x = withLetter(5, 0, 9);
        isSo(x, "4<5", true);
        isSo(x, "5<5", false);
        isSo(x, "6<5", false);
        isSo(x, "4=5", false);
        isSo(x, "5=5", true);
        isSo(x, "6=5", false);
        isSo(x, "4>5", false);
        isSo(x, "5>5", false);
        isSo(x, "6>5", true);
        isSo(x, "not 5=5", false);
        isSo(x, "not 4=5", true);
        isSo(x, "not 4<5", false);
        isSo(x, "not 6>5", false);
        isSo(x, "4<5 and 5=5", true);
        isSo(x, "6>5 and 5=5", true);
        isSo(x, "4<5 and 6>5", true);
        NineCopies y = withLetter(5, 0, 9);
        isSo(y, "1=1 or 1=1 and 1=2", true);
        isSo(y, "(1=1 or 1=1) and 1=2", false);
        isSo(y, "1=2 and 1=1 or 1=1", true);
        isSo(y, "1=2 and (1=1 or 1=1)", false);
        isSo(y, "not 1=2 or 1=1", true);
        isSo(y, "not (1=2 or 1=1)", false);
        isSo(y, "not 1=2 and 1=2", false);
        isSo(y, "1=1 and 1=1 and 1=2", false);
        isSo(y, "1=2 or 1=2 or 1=1", true);
        isSo(y, "1=1 and (1=2)", false);
        isSo(y, "(1=1) and (1=2)", false);
        isSo(y, "1=2 or (1=1)", true);
        isSo(y, "1=1 and (1=1 and (1=2))", false);
    }

    private static void writeIsHeldToNine() {
        Check.sentence("How many copies one would WRITE, held to 0 .. 9");
        NineCopies x = withLetter(5, 0, 1);
        Check.same("below", write(x, "write 0-1;"), 0);
        Check.same("far below", write(x, "write 8192*8192*32;"), 0);
        Check.same("least", write(x, "write 0;"), 0);
        Check.same("one more", write(x, "write 1;"), 1);
        Check.same("one less than the most", write(x, "write 8;"), 8);
        Check.same("most", write(x, "write 9;"), 9);
        Check.same("above", write(x, "write 10;"), 9);
        Check.same("far above", write(x, "write 8192*8192*32-1;"), 9);
    }

    private static void illIsHeldTo999() {
        Check.sentence("ILL luck, held to 0 .. 999");
        NineCopies x = withLetter(5, 0, 1);
        Check.same("below", ill(x, "ill 0-1;"), 0);
        Check.same("far below", ill(x, "ill 8192*8192*32;"), 0);
        Check.same("least", ill(x, "ill 0;"), 0);
        Check.same("one more", ill(x, "ill 1;"), 1);
        Check.same("one less than the most", ill(x, "ill 998;"), 998);
        Check.same("most", ill(x, "ill 999;"), 999);
        Check.same("above", ill(x, "ill 1000;"), 999);
        Check.same("far above", ill(x, "ill 8192*8192*32-1;"), 999);
    }

    private static void namesOfALetter() {
        Check.sentence("curse: of its VERSION; left; kind, lazy, coin: his; person: his number; day; days: DUE less DAY; paper: his; held; marks");
        NineCopies x = Given.people(16);
        x.version(9, 1023);
        x.version(0, 0);
        Given.rules(x, 9, 2);
        x.set(1, 15, 2);
        x.set(2, 15, 99);
        x.set(3, 15, 99);
        x.set(4, 15, 9999);
        x.hand(15, 0);
        isSo15(x, "curse=9 and left=9 and kind=2 and lazy=99 and coin=9999 and person=15");
        isSo15(x, "day=0 and days=2 and paper=99 and held=1 and marks=10");
        x.hand(15, 1);
        x.days(2);
        isSo15(x, "day=2 and days=0 and held=2");
        x.burn(15, 0);
        x.set(6, 0, 5);
        x.hand(15, 0);
        x.hand(15, 0);
        x.days(3);
        isSo15(x, "day=5 and days=0-3 and held=3 and curse=0 and marks=0");
        x.set(2, 15, 0);
        x.set(3, 15, 0);
        x.set(4, 15, 0);
        isSo15(x, "lazy=0 and paper=0 and coin=0");
        isSo15(x, 1, "curse=9 and marks=10 and days=0-1 and left=5");
        Check.lines(x, 1, "ill 500 when day=5 and coin=0 and lazy=0 and kind=2 and person=15 and left=9 and curse=0;ill 1;", 2);
        Check.same("luck", x.letter(15, 0, 5), 500);
        NineCopies y = withLetter(1, 0, 1);
        isSo(y, "person=0 and kind=0 and lazy=0 and coin=0 and paper=0 and left=1 and days=9", true);
    }

    private static void isSo15(NineCopies x, String test) {
        isSo15(x, 0, test);
    }

    private static void isSo15(NineCopies x, int i, String test) {
        Check.lines(x, 0, "write 7 when " + test + ";write 3;", 2);
        Check.same(test, x.letter(15, i, 4), 7);
    }

    private static void writeAsksNeither() {
        Check.sentence("15: what he would WRITE now (STOPPED, PAPER, ROW not asked)");
        NineCopies x = withLetter(5, 0, 9);
        Check.same("without paper and row", write(x, "write 6;"), 6);
        x.set(5, 0, 1);
        Check.same("stopped", x.letter(0, 0, 4), 6);
    }
}
