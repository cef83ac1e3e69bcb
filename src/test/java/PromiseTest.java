/** Each promise of the document by hand: ordinary inputs, the edges it names, wrong inputs. */
public final class PromiseTest {
    private static final int NONE = NineCopies.NONE;

    public static void main(String[] args) {
        newObject();
        state();
        person();
        set();
        address();
        version();
        hand();
        burn();
        feedAndEnd();
        textsAndFaults();
        lawOfHands();
        lawOfLuck();
        days();
        book();
        of();
        letterAndStamps();
        onWay();
        kind();
        post();
        many();
        over();
        stop();
        reach();
        sources();
        circle();
        pickAndJoin();
        forebear();
        lasts();
        knows();
        undo();
        image();
        look();
        Check.finish("PromiseTest");
    }

    private static void same(String what, long got, long want) {
        Check.same(what, got, want);
    }

    private static void newObject() {
        NineCopies x = new NineCopies();
        int[] wants = {0, 0, 0, 0, 0, 0, 0, 0, 0, 0, 0, 0, 0, 0, 0};
        for (int what = 0; what < wants.length; what++) {
            same("1: look " + what, x.look(what), wants[what]);
        }
        same("1: copies", x.look(20), 9);
        same("1: term", x.look(21), 9);
        same("1: blots", x.look(22), 0);
        same("1: frost", x.look(23), 0);
        same("1: fault", x.fault(0), 0);
        same("1: place", x.fault(1), NONE);
        same("1: tape", x.end(1) ? 1 : 0, 0);
        same("1: NONE", NineCopies.NONE, -1);
    }

    private static void state() {
        NineCopies x = new NineCopies();
        same("2: first", x.state(77), 0);
        same("2: second", x.state(Integer.MIN_VALUE), 77);
        same("2: third", x.state(Integer.MAX_VALUE), Integer.MIN_VALUE);
        same("2: look", x.look(6), Integer.MAX_VALUE);
    }

    private static void person() {
        NineCopies x = new NineCopies();
        int[][] wrong = {{-1, 0, 0}, {6, 0, 0}, {0, -1, 0}, {0, 3, 0}, {0, 0, -1}, {0, 0, 100}};
        for (int[] w : wrong) {
            same("3: wrong", x.person(w[0], w[1], w[2]), NONE);
        }
        same("3: nobody came", x.look(0), 0);
        for (int p = 0; p < 16; p++) {
            same("3: number", x.person(p % 6, p % 3, 99 - p), p);
        }
        same("3: the seventeenth", x.person(0, 0, 0), NONE);
        for (int p = 0; p < 16; p++) {
            same("3: town", x.of(p, 0), p % 6);
            same("3: kind", x.of(p, 1), p % 3);
            same("3: lazy", x.of(p, 2), 99 - p);
            for (int what = 3; what <= 10; what++) {
                same("3: nothing yet of " + what, x.of(p, what), 0);
            }
        }
    }

    private static void set() {
        NineCopies x = Given.inTowns(0, 0);
        int[] least = {0, 0, 0, 0, 0, 0, 1, 1, 0, 0};
        int[] most = {5, 2, 99, 99, 9999, 1, 9, 20, 1000, 1};
        for (int what = 0; what < 10; what++) {
            Check.no("4: below " + what, x.set(what, 1, least[what] - 1));
            Check.no("4: above " + what, x.set(what, 1, most[what] + 1));
            Check.yes("4: least " + what, x.set(what, 1, least[what]));
            same("4: least stands " + what, what < 6 ? x.of(1, what) : x.look(14 + what), least[what]);
            Check.yes("4: most " + what, x.set(what, 1, most[what]));
            same("4: most stands " + what, what < 6 ? x.of(1, what) : x.look(14 + what), most[what]);
            same("4: of another " + what, what < 6 ? x.of(0, what) : 0, 0);
            same("4: person asked " + what, x.set(what, 2, most[what]) ? 1 : 0, what < 6 ? 0 : 1);
            same("4: person below asked " + what, x.set(what, -1, most[what]) ? 1 : 0, what < 6 ? 0 : 1);
        }
        Check.no("4: what below", x.set(-1, 0, 0));
        Check.no("4: what above", x.set(10, 0, 0));
    }

    private static void address() {
        NineCopies x = Given.inTowns(0, 0, 0);
        same("5: himself", x.address(0, 0), NONE);
        same("5: nobody", x.address(0, 3), NONE);
        same("5: below", x.address(0, -2), NONE);
        same("5: of nobody", x.address(3, 0), NONE);
        same("5: emptied of nobody", x.address(3, NONE), NONE);
        for (int i = 0; i < 9; i++) {
            same("5: how many", x.address(0, i < 5 ? 1 : 2), i + 1);
        }
        same("5: the tenth", x.address(0, 1), NONE);
        same("5: the fifth", x.of(0, 24), 1);
        same("5: the sixth", x.of(0, 25), 2);
        x.set(3, 0, 2);
        x.version(1, 1);
        x.hand(0, 0);
        Check.tell(x, 0, "write 2;");
        x.days(1);
        same("5: next", x.of(0, 8), 2);
        same("5: one can come to a full row's end only when it is emptied", x.address(0, NONE), 0);
        same("5: next is 0 then", x.of(0, 8), 0);
        same("5: none stands", x.of(0, 20), NONE);
        same("5: the first anew", x.address(0, 2), 1);
    }

    private static void version() {
        NineCopies x = new NineCopies();
        same("6: curse below", x.version(-1, 0), NONE);
        same("6: curse above", x.version(10, 0), NONE);
        same("6: marks below", x.version(0, -1), NONE);
        same("6: marks above", x.version(0, 1024), NONE);
        for (int v = 0; v < 40; v++) {
            same("6: number", x.version(v % 10, 1023 - v), v);
        }
        same("6: the forty-first", x.version(0, 0), NONE);
        for (int v = 0; v < 40; v++) {
            same("6: curse", x.kind(v, 0), v % 10);
            same("6: marks", x.kind(v, 1), 1023 - v);
            same("6: of none", x.kind(v, 2), NONE);
            same("6: by nobody", x.kind(v, 3), NONE);
        }
    }

    private static void hand() {
        NineCopies x = Given.inTowns(0, 0);
        x.person(0, 1, 0);
        x.person(0, 2, 0);
        x.version(2, 0);
        x.version(3, 0);
        x.set(6, 0, 4);
        x.set(7, 0, 6);
        x.days(5);
        Check.no("7: to a burner", x.hand(2, 0));
        Check.no("7: to nobody", x.hand(4, 0));
        Check.no("7: to one below", x.hand(-1, 0));
        Check.no("7: of no version", x.hand(0, 2));
        Check.no("7: of a version below", x.hand(0, -1));
        Check.yes("7: to a convent", x.hand(3, 1));
        x.set(5, 1, 1);
        Check.yes("7: to a stopped one", x.hand(1, 1));
        Check.yes("7: first", x.hand(0, 0));
        Check.yes("7: second", x.hand(0, 1));
        Check.yes("7: third", x.hand(0, 0));
        Check.no("7: fourth", x.hand(0, 0));
        same("7: version", x.letter(0, 1, 0), 1);
        same("7: from", x.letter(0, 1, 1), NONE);
        same("7: due", x.letter(0, 1, 2), 11);
        same("7: left", x.letter(0, 1, 3), 4);
        same("7: had", x.of(0, 9), 2);
        same("7: in hands", x.look(4), 5);
    }

    private static void burn() {
        NineCopies x = Given.inTowns(0);
        for (int v = 0; v < 3; v++) {
            x.version(v, 0);
            x.hand(0, v);
        }
        Check.no("8: below", x.burn(0, -1));
        Check.no("8: above", x.burn(0, 3));
        Check.no("8: nobody", x.burn(1, 0));
        Check.no("8: below", x.burn(-1, 0));
        Check.yes("8: the middle one", x.burn(0, 1));
        same("8: first stays", x.letter(0, 0, 0), 0);
        same("8: third comes ahead", x.letter(0, 1, 0), 2);
        same("8: two are there", x.of(0, 6), 2);
        same("8: had stays", x.of(0, 9), 3);
        same("8: neither freed", x.look(7), 0);
        same("8: nor cursed", x.look(8), 0);
        same("8: nor lost", x.look(9), 0);
        Check.yes("8: the first", x.burn(0, 0));
        same("8: one ahead again", x.letter(0, 0, 0), 2);
    }

    private static void feedAndEnd() {
        NineCopies x = new NineCopies();
        Check.no("10: more than there is", x.end(1));
        Check.no("10: below", x.end(-1));
        Check.yes("10: none of none", x.end(0));
        for (int i = 1; i <= 20; i++) {
            same("9: how many", x.feed(0x20202020, 0x20202020, 0x20202020, 0x20202020, 0x20202020), 20 * i);
        }
        same("9: more than 400", x.feed(0, 0, 0, 0, 0), NONE);
        same("9: nothing came", x.text(0), 0);
        same("9: empty then", x.feed(0, 0, 0, 0, 0), 20);
        Check.no("10: above", x.end(21));
        Check.yes("10: as it is", x.end(20));
        Check.yes("10: 19", x.end(19));
        Check.no("10: no more there", x.end(20));
        for (int i = 0; i < 19; i++) {
            x.feed(0, 0, 0, 0, 0);
        }
        same("9: 399 and 20", x.feed(0, 0, 0, 0, 0), NONE);
        Check.no("10: 400 are not there", x.end(400));
        Check.yes("10: 399", x.end(399));
        // "writ" "e 12" "3;\n " ...: the highest byte comes first, and a byte above 127 is no sign of another kind.
        x.end(0);
        x.feed(0x77726974, 0x65203132, 0x333b0a20, 0x20202020, 0xff202020);
        x.text(0);
        same("9: the sign 255 can't stand", x.fault(0), 1);
        same("9: its place", x.fault(1), 16);
        x.feed(0x77726974, 0x65203132, 0x333b0a20, 0x20202020, 0xff202020);
        Check.yes("10: the first bytes", x.end(16));
        same("9: as it is read", x.text(0), 1);
    }

    private static void textsAndFaults() {
        NineCopies x = new NineCopies();
        Check.lines(x, 0, "", 0);
        Check.lines(x, 0, " \n", 0);
        Check.lines(x, 0, "write 7;write\n3 when days<2;", 2);
        same("11: lines of hands", x.look(10), 2);
        Check.lines(x, 1, "ill 10*curse;ill 0012 when not(1=1 or 2<1)and lazy>3;ill left;", 3);
        same("11: lines of luck", x.look(11), 3);
        Check.lines(x, 2, "post 0 to 5 in 20;post 0 to 0 in 1;post5to0in0003;", 3);
        same("11: lines of post", x.look(12), 3);
        Check.tape(x, "write 1;");
        same("11: no such one", x.text(3), NONE);
        same("12: no fault of no such one", x.fault(0), 0);
        same("12: no place of no such one", x.fault(1), NONE);
        Check.no("11: the tape is empty then", x.end(1));
        Check.faulty(x, 0, "write", 1, 5);
        Check.no("11: the tape is empty with a fault", x.end(1));
        same("11: no such one below", x.text(-1), NONE);
        same("12: the fault before is gone", x.fault(0), 0);
        same("12: another what", x.fault(2), NONE);
        same("12: a what below", x.fault(-1), NONE);
        same("11: hands stays with a fault", x.look(10), 2);
        faultsOfStanding(x);
        faultsOfNumbers(x);
        faultsOfLines(x);
        faultsOfDepth(x);
        Check.faulty(x, 1, "ill 1 ill", 1, 6);
        same("11: luck stays with a fault", x.look(11), 3);
        Check.faulty(x, 2, "post 1 to 2 in 3", 1, 16);
        same("11: post stays with a fault", x.look(12), 3);
        same("11: days of it too", x.post(0, 5), 3);
    }

    private static void faultsOfStanding(NineCopies x) {
        Check.faulty(x, 0, "write 1 ", 1, 8);
        Check.faulty(x, 0, "writex 1;", 1, 0);
        Check.faulty(x, 0, "writeX 1;", 1, 0);
        Check.faulty(x, 0, "Write 1;", 1, 0);
        Check.faulty(x, 0, "  ill 1;", 1, 2);
        Check.faulty(x, 0, "1;", 1, 0);
        Check.faulty(x, 0, ";", 1, 0);
        Check.faulty(x, 0, "write 12345;", 1, 6);
        Check.faulty(x, 0, "write 00001;", 1, 6);
        Check.faulty(x, 0, "write\t1;", 1, 5);
        Check.faulty(x, 0, "write 1.;", 1, 7);
        Check.faulty(x, 0, "write 1 2;", 1, 8);
        Check.faulty(x, 0, "write 1days;", 1, 7);
        Check.faulty(x, 0, "write (1);", 1, 6);
        Check.faulty(x, 0, "write -1;", 1, 6);
        Check.faulty(x, 0, "write 1+;", 1, 8);
        Check.faulty(x, 0, "write 4/left;", 1, 8);
        Check.faulty(x, 0, "write 1 when;", 1, 12);
        Check.faulty(x, 0, "write 1 when 2;", 1, 14);
        Check.faulty(x, 0, "write 1 when 1<2<3;", 1, 16);
        Check.faulty(x, 0, "write 1 when (1)=1;", 1, 15);
        Check.faulty(x, 0, "write 1 when (1=1;", 1, 17);
        Check.faulty(x, 0, "write 1 when 1=1);", 1, 16);
        Check.faulty(x, 0, "write 1 when 1=1 not 1=1;", 1, 17);
        Check.faulty(x, 0, "write 1 when 1=1 and or 1=1;", 1, 21);
        Check.faulty(x, 0, "write 1 when 1=1 or;", 1, 19);
        Check.faulty(x, 0, "write 1 when 1=1 when 1=1;", 1, 17);
        Check.faulty(x, 0, "write post;", 1, 6);
        Check.faulty(x, 0, "write 1;;", 1, 8);
        Check.faulty(x, 1, "write 1;", 1, 0);
        for (String name : new String[] {"days", "paper", "held", "marks"}) {
            Check.faulty(x, 1, "ill " + name + ";", 1, 4);
        }
        Check.faulty(x, 2, "post 1 to 2 to 3;", 1, 12);
        Check.faulty(x, 2, "post 1 in 2;", 1, 7);
        Check.faulty(x, 2, "post left to 2 in 3;", 1, 5);
        Check.faulty(x, 2, "1 to 2 in 3;", 1, 0);
        Check.faulty(x, 2, "write 1;", 1, 0);
    }

    private static void faultsOfNumbers(NineCopies x) {
        Check.faulty(x, 0, "write 4/0;", 2, 8);
        Check.faulty(x, 0, "write 4/ 000;", 2, 9);
        Check.faulty(x, 0, "write 4 when 3/0 = 1 2;", 2, 15);
        Check.faulty(x, 0, "write 4 4/0;", 1, 8);
        Check.faulty(x, 1, "ill 9*4/0", 2, 8);
        Check.faulty(x, 2, "post 6 to 0 in 0;", 2, 5);
        Check.faulty(x, 2, "post 5 to 6 in 0;", 2, 10);
        Check.faulty(x, 2, "post 5 to 5 in 0;", 2, 15);
        Check.faulty(x, 2, "post 5 to 5 in 21;", 2, 15);
        Check.faulty(x, 2, "post 5 to 5 in 20", 1, 17);
        Check.faulty(x, 2, "post 99999 to 0 in 1;", 1, 5);
    }

    private static void faultsOfLines(NineCopies x) {
        String hands = "write 1;".repeat(16);
        String luck = "ill 1;".repeat(16);
        Check.faulty(x, 0, hands + "write 1;", 3, 128);
        Check.faulty(x, 0, hands + " write", 3, 129);
        Check.faulty(x, 0, hands + "1;", 1, 128);
        Check.faulty(x, 1, luck + "ill 1;", 3, 96);
        Check.faulty(x, 0, hands.substring(8) + "write;write 1;", 1, 125);
        NineCopies y = new NineCopies();
        Check.lines(y, 0, hands, 16);
        Check.lines(y, 1, luck, 16);
        Check.lines(y, 2, "post0to1in1;".repeat(33), 33);
        Check.lines(y, 0, "", 0);
        same("11: no lines then", y.look(10), 0);
    }

    private static void faultsOfDepth(NineCopies x) {
        Check.faulty(x, 0, "write 1 when " + "(".repeat(9) + "1=1" + ")".repeat(9) + ";", 3, 21);
        Check.faulty(x, 0, "write 1 when " + "not ".repeat(9) + "1=1;", 3, 45);
        Check.faulty(x, 0, "write 1 when " + "not(".repeat(4) + "not(", 3, 29);
        Check.faulty(x, 0, "write 1 when " + "not(".repeat(4) + "(not", 3, 29);
        Check.faulty(x, 0, "write 1 when " + "not(".repeat(4) + "1=1 and not", 3, 37);
        Check.faulty(x, 0, "write 1 when 1=1 " + "(".repeat(9), 1, 17);
        NineCopies y = new NineCopies();
        Check.lines(y, 0, "write 1 when " + "(".repeat(8) + "1=1" + ")".repeat(8) + ";", 1);
        Check.lines(y, 0, "write 1 when " + "not ".repeat(8) + "1=1;", 1);
        Check.lines(y, 0, "write 1 when not not 1=1 and not not not not not not not 1=1 or not (not 1=1 or (1=1));", 1);
    }

    private static int copiesOf(NineCopies x, int person, int i, String law) {
        Check.tell(x, 0, law);
        return x.letter(person, i, 4);
    }

    private static void lawOfHands() {
        NineCopies x = Given.inTowns(0, 0, 0);
        x.version(5, 0b1011001);
        x.set(7, 0, 8);
        x.set(6, 0, 7);
        x.days(3);
        x.hand(2, 0);
        x.hand(2, 0);
        x.set(2, 2, 6);
        x.set(3, 2, 3);
        x.set(4, 2, 9);
        x.set(1, 2, 2);
        x.days(1);
        same("law: none tells 1", x.letter(2, 0, 4), 1);
        same("law: curse", copiesOf(x, 2, 0, "write curse;"), 5);
        same("law: left", copiesOf(x, 2, 0, "write left;"), 7);
        same("law: kind", copiesOf(x, 2, 0, "write kind;"), 2);
        same("law: lazy", copiesOf(x, 2, 0, "write lazy;"), 6);
        same("law: coin", copiesOf(x, 2, 0, "write coin;"), 9);
        same("law: person", copiesOf(x, 2, 0, "write person;"), 2);
        same("law: day", copiesOf(x, 2, 0, "write day;"), 4);
        same("law: days", copiesOf(x, 2, 0, "write days;"), 7);
        same("law: paper", copiesOf(x, 2, 0, "write paper;"), 3);
        same("law: held", copiesOf(x, 2, 0, "write held;"), 2);
        same("law: marks", copiesOf(x, 2, 0, "write marks;"), 4);
        same("law: held to 9", copiesOf(x, 2, 0, "write 10;"), 9);
        same("law: held to 0", copiesOf(x, 2, 0, "write 1-2;"), 0);
        same("law: paper and left are not asked", copiesOf(x, 2, 0, "write 8;"), 8);
        same("law: from the left", copiesOf(x, 2, 0, "write 9-4-3;"), 2);
        same("law: product ahead of sum", copiesOf(x, 2, 0, "write 9-2*3+1;"), 4);
        same("law: parts downwards", copiesOf(x, 2, 0, "write 7/2;"), 3);
        same("law: parts from the left", copiesOf(x, 2, 0, "write 100/5/3*1;"), 6);
        same("law: below 0 towards 0", copiesOf(x, 2, 0, "write 5 when 3-10 = 0-7 ;"), 5);
        same("law: a product is no number", copiesOf(x, 2, 0, "write 9-left*3/2+5;"), 4);
        same("law: towards 0", copiesOf(x, 2, 0, "write 3 when 0 > 0*left-left/2; write 4 when left/2=3;"), 3);
        same("law: ints wrap", copiesOf(x, 2, 0, "write 3 when 9999*9999*9999 < 0 ; write 4;"),
                9999 * 9999 * 9999 < 0 ? 3 : 4);
        same("law: the first line that is so", copiesOf(x, 2, 0, "write 2 when 1=2; write 3 when 1<2; write 4;"), 3);
        same("law: none is so", copiesOf(x, 2, 0, "write 2 when 1=2; write 3 when 2<1;"), 1);
        same("law: and goes ahead of or", copiesOf(x, 2, 0, "write 5 when 1=1 or 1=1 and 1=2; write 6;"), 5);
        same("law: and ahead of or behind", copiesOf(x, 2, 0, "write 5 when 1=2 and 1=1 or 1=1; write 6;"), 5);
        same("law: brackets", copiesOf(x, 2, 0, "write 5 when (1=1 or 1=1) and 1=2; write 6;"), 6);
        same("law: not goes ahead of and", copiesOf(x, 2, 0, "write 5 when not 1=2 and 1=2; write 6;"), 6);
        same("law: not of brackets", copiesOf(x, 2, 0, "write 5 when not (1=2 and 1=2); write 6;"), 5);
        same("law: not not", copiesOf(x, 2, 0, "write 5 when not not 1=2; write 6;"), 6);
        same("law: more", copiesOf(x, 2, 0, "write 5 when 2>2; write 6 when 3>2; write 7;"), 6);
        same("law: less", copiesOf(x, 2, 0, "write 5 when 2<2; write 6 when 1<2; write 7;"), 6);
        same("law: three ors", copiesOf(x, 2, 0, "write 5 when 1=2 or 1=3 or 1=4 or 1=1; write 6;"), 5);
        same("law: of sums", copiesOf(x, 2, 0, "write 5 when left + 1 = curse*2 - 2; write 6;"), 5);
    }

    private static int luckOf(NineCopies x, int person, int i, String law) {
        Check.tell(x, 1, law);
        return x.letter(person, i, 5);
    }

    private static void lawOfLuck() {
        NineCopies x = Given.inTowns(0, 0, 0);
        x.version(5, 0);
        x.set(6, 0, 7);
        x.hand(2, 0);
        x.set(2, 2, 6);
        x.set(4, 2, 9);
        x.set(1, 2, 2);
        x.days(1);
        same("luck: none tells curse times left", x.letter(2, 0, 5), 35);
        same("luck: names", luckOf(x, 2, 0, "ill curse+10*left+lazy*100;"), 675);
        same("luck: more names", luckOf(x, 2, 0, "ill kind+10*coin+person*100+day*300;"), 592);
        same("luck: held to 999", luckOf(x, 2, 0, "ill 1000;"), 999);
        same("luck: held to 0", luckOf(x, 2, 0, "ill 0-1;"), 0);
        same("luck: none is so", luckOf(x, 2, 0, "ill 1 when 1=2;"), 35);
    }

    private static void days() {
        NineCopies x = new NineCopies();
        same("13: none", x.days(0), NONE);
        same("13: below", x.days(-1), NONE);
        same("13: above", x.days(61), NONE);
        same("13: sixty", x.days(60), 0);
        for (int i = 0; i < 165; i++) {
            x.days(60);
        }
        same("13: day", x.look(2), 9960);
        same("13: above 9999", x.days(40), NONE);
        same("13: nothing was done", x.look(2), 9960);
        same("13: to 9999", x.days(39), 0);
        same("13: day 9999", x.look(2), 9999);
        same("13: no more", x.days(1), NONE);
        daysOfArrival();
        daysOfWriting();
        daysOfBlots();
        daysOfFullWay();
        daysOfLuck();
    }

    private static void daysOfArrival() {
        NineCopies x = Given.ring(3, 1, 5, 5);
        x.hand(0, 0);
        same("a: posted, none came", x.days(1), 0);
        same("a: freed", x.look(7), 1);
        same("a: came", x.days(1), 1);
        same("a: went on at once", x.look(3), 1);
        same("a: and on, and round: he sent to another than it is from", x.days(2), 2);
        same("a: the first holds it", x.book(2, 3), 0);
        same("a: so it goes on", x.look(3), 1);
        x.set(9, 0, 1);
        same("a: frost", x.days(4), 0);
        same("a: it waits", x.look(3), 1);
        x.set(9, 0, 0);
        x.set(5, 0, 1);
        x.set(5, 1, 1);
        x.set(5, 2, 1);
        x.set(6, 0, 3);
        same("a: thaw", x.days(1), 1);
        same("a: it is on the way no more", x.look(3), 0);
        same("a: due from when it came", x.letter(1, 0, 2), 8 + 5);
        same("a: left is copies of now", x.letter(1, 0, 3), 3);
    }

    private static void daysOfWriting() {
        NineCopies x = Given.inTowns(0, 0, 0, 0, 0, 0);
        x.version(1, 0);
        x.version(2, 0);
        x.set(6, 0, 3);
        for (int p = 0; p < 5; p++) {
            x.set(3, p, 50);
            x.address(p, 5);
            x.address(p, p == 0 ? 1 : 0);
        }
        x.set(3, 0, 4);
        x.set(1, 1, 2);
        x.set(5, 2, 1);
        x.address(3, NONE);
        x.set(1, 4, 0);
        for (int p = 0; p < 5; p++) {
            x.hand(p, 0);
            x.hand(p, 1);
        }
        x.set(1, 4, 1);
        Check.tell(x, 0, "write 9;");
        x.days(1);
        same("b: no more than paper", x.of(0, 3), 0);
        same("b: the first is written out", x.of(0, 6), 1);
        same("b: the second one's left", x.letter(0, 0, 3), 2);
        same("b: a convent writes nothing", x.of(1, 3), 50);
        same("b: a stopped one writes nothing", x.of(2, 3), 50);
        same("b: one without a row writes nothing", x.of(3, 3), 50);
        same("b: one who became a burner writes what he holds", x.of(4, 3), 44);
        same("b: freed", x.look(7), 3);
        same("b: on the way", x.look(3), 10);
        int[] tos = {5, 1, 5, 1, 5, 0, 5, 0, 5, 0};
        int[] versions = {0, 0, 0, 1, 0, 0, 0, 1, 1, 1};
        for (int i = 0; i < 10; i++) {
            same("b: to whom " + i, x.onWay(i, 2), tos[i]);
            same("b: what " + i, x.onWay(i, 0), versions[i]);
            same("b: from whom " + i, x.onWay(i, 1), i < 4 ? 0 : 4);
        }
        same("b: sent", x.of(0, 10), 34);
        same("b: next", x.of(0, 8), 0);
        // What is written out is out of his hands before the next one is looked at.
        NineCopies y = Given.inTowns(0, 0);
        y.version(1, 0);
        y.set(6, 0, 2);
        y.set(3, 0, 50);
        y.address(0, 1);
        y.hand(0, 0);
        y.hand(0, 0);
        Check.tell(y, 0, "write held;");
        y.days(1);
        same("b: held then", y.letter(0, 0, 3), 1);
    }

    private static void daysOfBlots() {
        NineCopies x = Given.inTowns(0, 0);
        x.version(5, 0);
        x.set(6, 0, 9);
        x.set(3, 0, 99);
        x.set(8, 0, 500);
        x.address(0, 1);
        x.state(12345);
        x.hand(0, 0);
        Check.tell(x, 0, "write 9;");
        x.days(1);
        int state = 12345;
        int versions = 1;
        for (int i = 0; i < 9; i++) {
            state = state * 1664525 + 1013904223;
            if ((state >>> 8) % 1000 < 500) {
                state = state * 1664525 + 1013904223;
                int mark = (state >>> 8) % 10;
                same("blots: marks", x.kind(versions, 1), 1 << mark);
                same("blots: curse", x.kind(versions, 0), mark == 0 ? 4 : 5);
                same("blots: of which", x.kind(versions, 2), 0);
                same("blots: by whom", x.kind(versions, 3), 0);
                same("blots: on the way", x.onWay(i, 0), versions);
                versions++;
            } else {
                same("blots: the same one", x.onWay(i, 0), 0);
            }
        }
        same("blots: versions", x.look(1), versions);
        same("blots: state", x.look(6), state);
        blotsOfForty();
        blotsOfMarkNought();
    }

    private static void blotsOfForty() {
        NineCopies x = Given.inTowns(0, 0);
        for (int v = 0; v < 39; v++) {
            x.version(3, 1);
        }
        x.set(3, 0, 3);
        x.set(8, 0, 1000);
        x.address(0, 1);
        x.hand(0, 7);
        Check.tell(x, 0, "write 3;");
        x.days(1);
        same("blots: forty", x.look(1), 40);
        same("blots: the fortieth", x.onWay(0, 0), 39);
        same("blots: with forty the same one", x.onWay(1, 0), 7);
        int state = 0;
        for (int i = 0; i < 6; i++) {
            state = state * 1664525 + 1013904223;
        }
        same("blots: both draws all the same", x.look(6), state);
    }

    /** Looks for states from which mark 0 is drawn: it makes the curse less, not below 0, and goes when it is there. */
    private static void blotsOfMarkNought() {
        int found = 0;
        for (int state = 0; state < 100000 && found < 10; state += 7) {
            int second = (state * 1664525 + 1013904223) * 1664525 + 1013904223;
            if ((second >>> 8) % 10 != 0) {
                continue;
            }
            int curse = found % 3;
            NineCopies x = Given.inTowns(0, 0);
            x.version(curse, found % 2);
            x.set(3, 0, 1);
            x.set(8, 0, 1000);
            x.address(0, 1);
            x.state(state);
            x.hand(0, 0);
            x.days(1);
            same("blots: curse of mark 0", x.kind(1, 0), Math.max(0, curse - 1));
            same("blots: mark 0 there or not", x.kind(1, 1), 1 - found % 2);
            found++;
        }
        same("blots: enough states", found, 10);
    }

    private static void daysOfFullWay() {
        NineCopies x = Given.inTowns(0, 1, 1, 1, 1, 1, 1, 1, 1);
        Check.tell(x, 2, "post 0 to 1 in 20; post 1 to 1 in 20;");
        Check.tell(x, 0, "write 9;");
        x.version(9, 0);
        for (int p = 1; p < 9; p++) {
            x.set(3, p, 99);
            x.address(p, 0);
            x.address(p, p == 1 ? 2 : 1);
            x.hand(p, 0);
        }
        x.days(1);
        same("way: sixty", x.look(3), 60);
        same("way: lost", x.look(9), 12);
        same("way: freed", x.look(7), 8);
        same("way: paper is less all the same", x.of(8, 3), 90);
        same("way: next is further all the same", x.of(8, 8), 1);
        same("way: sent all the same", x.of(8, 10), 3);
    }

    private static void daysOfLuck() {
        NineCopies x = Given.inTowns(0, 0);
        x.person(0, 2, 0);
        x.version(5, 0);
        x.set(6, 0, 2);
        x.set(7, 0, 2);
        x.set(4, 0, 95);
        x.set(4, 1, 15);
        x.set(5, 1, 1);
        x.hand(0, 0);
        x.hand(1, 0);
        x.hand(1, 0);
        x.hand(2, 0);
        x.days(2);
        same("c: not yet", x.look(8), 0);
        x.days(1);
        same("c: cursed, and stopped ones too", x.look(8), 3);
        same("c: coin", x.of(0, 4), 85);
        same("c: coin not below 0", x.of(1, 4), 0);
        same("c: a convent keeps it", x.of(2, 6), 1);
        x.days(9);
        same("c: ever", x.of(2, 6), 1);
        // The second one's ill luck is that of what coin is left by then.
        NineCopies y = Given.inTowns(0);
        y.version(5, 0);
        y.set(7, 0, 1);
        y.set(4, 0, 100);
        y.hand(0, 0);
        y.hand(0, 0);
        Check.tell(y, 1, "ill coin/2;");
        y.days(2);
        same("c: one behind the other", y.of(0, 4), 25);
    }

    private static void book() {
        NineCopies x = Given.inTowns(0, 0, 0);
        x.person(0, 1, 0);
        x.set(6, 0, 9);
        x.set(7, 0, 20);
        x.version(1, 0);
        x.version(2, 0);
        x.set(3, 0, 99);
        x.set(3, 1, 99);
        for (int to : new int[] {3, 1, 2}) {
            x.address(0, to);
        }
        x.address(1, 0);
        x.hand(0, 1);
        x.hand(2, 0);
        x.hand(2, 0);
        x.hand(2, 0);
        Check.tell(x, 0, "write 3;");
        x.days(1);
        same("19: nothing yet", x.book(0, 0), NONE - 1);
        same("19: came", x.days(1), 1);
        int[][] wants = {{1, 1, 0, 3, 1}, {1, 1, 0, 1, 0}, {1, 1, 0, 2, 3}};
        for (int i = 0; i < 3; i++) {
            for (int what = 0; what < 5; what++) {
                same("19: line " + i + " what " + what, x.book(i, what), wants[i][what]);
            }
        }
        same("19: lost", x.look(9), 1);
        same("19: another what", x.book(0, 5), NONE - 1);
        same("19: a what below", x.book(0, -1), NONE - 1);
        same("19: a line below", x.book(-1, 0), NONE - 1);
        x.days(1);
        // He wrote to whom it comes from, so it is done with, also if he could not hold it.
        same("19: done with", x.book(6, 4), 2);
        same("19: by the first", x.book(6, 3), 0);
        bookOfTwoHundred();
    }

    private static void bookOfTwoHundred() {
        NineCopies x = Given.inTowns(0);
        x.person(0, 1, 0);
        x.version(1, 0);
        x.address(0, 1);
        Check.tell(x, 0, "write 9;");
        for (int i = 0; i < 12; i++) {
            x.set(3, 0, 99);
            x.hand(0, 0);
            x.hand(0, 0);
            x.days(1);
        }
        same("19: lines", x.look(5), 198);
        x.days(1);
        same("19: 200 lines, no more then", x.look(5), 200);
        same("19: the last", x.book(199, 4), 1);
        same("19: none behind it", x.book(200, 0), NONE - 1);
        same("19: all came all the same", x.look(3), 0);
    }

    private static void of() {
        NineCopies x = Given.inTowns(0, 0);
        same("14: nobody", x.of(2, 0), NONE);
        same("14: below", x.of(-1, 0), NONE);
        for (int what : new int[] {-1, 11, 19, 20, 29, Integer.MAX_VALUE, Integer.MIN_VALUE}) {
            same("14: what " + what, x.of(0, what), NONE);
        }
        x.address(0, 1);
        same("14: an address", x.of(0, 20), 1);
        same("14: addresses", x.of(0, 7), 1);
        same("14: none behind it", x.of(0, 21), NONE);
        same("14: of the other", x.of(1, 20), NONE);
    }

    private static void letterAndStamps() {
        NineCopies x = Given.inTowns(0, 1, 2, 3, 1);
        x.version(3, 0);
        x.set(6, 0, 3);
        same("15: none", x.letter(0, 0, 0), NONE - 1);
        x.hand(0, 0);
        same("15: none behind it", x.letter(0, 1, 0), NONE - 1);
        same("15: one below", x.letter(0, -1, 0), NONE - 1);
        same("15: nobody", x.letter(5, 0, 0), NONE - 1);
        same("15: another what", x.letter(0, 0, 7), NONE - 1);
        same("15: a what below", x.letter(0, 0, -1), NONE - 1);
        Check.tell(x, 2, "post 0 to 1 in 7; post 2 to 0 in 20; post 0 to 3 in 2;");
        same("15: no stamps without addresses", x.letter(0, 0, 6), NONE);
        x.address(0, 1);
        x.address(0, 1);
        x.address(0, 1);
        same("15: one address is not three unlike ones", x.letter(0, 0, 6), NONE);
        x.address(0, 2);
        x.address(0, 3);
        same("15: three of three", x.letter(0, 0, 6), 29);
        x.address(0, 4);
        same("15: the least three of four", x.letter(0, 0, 6), 16);
        x.set(6, 0, 1);
        x.hand(0, 0);
        same("15: the least one", x.letter(0, 1, 6), 2);
        x.set(5, 0, 1);
        same("15: stopped is not asked", x.letter(0, 0, 4), 1);
    }

    private static void onWay() {
        NineCopies x = Given.inTowns(2, 4);
        x.version(3, 0);
        x.version(3, 0);
        x.set(3, 0, 1);
        x.address(0, 1);
        Check.tell(x, 2, "post 4 to 2 in 6;");
        x.days(3);
        x.hand(0, 1);
        same("16: none", x.onWay(0, 0), NONE);
        x.days(1);
        same("16: version", x.onWay(0, 0), 1);
        same("16: from", x.onWay(0, 1), 0);
        same("16: to", x.onWay(0, 2), 1);
        same("16: day", x.onWay(0, 3), 9);
        same("16: another what", x.onWay(0, 4), NONE);
        same("16: a what below", x.onWay(0, -1), NONE);
        same("16: none behind it", x.onWay(1, 0), NONE);
        same("16: one below", x.onWay(-1, 0), NONE);
        Check.tell(x, 2, "");
        same("16: what is posted stays as it was told then", x.days(5), 0);
        same("16: it comes on its day", x.days(1), 1);
    }

    /** Version 0, whose letter one blots again and again: 0, then 1 of 0, and so on, each from hand to hand. */
    private static NineCopies chain() {
        NineCopies x = Given.ring(4, 1, 9, 90);
        x.set(8, 0, 1000);
        x.hand(0, 0);
        x.days(3);
        return x;
    }

    private static void kind() {
        NineCopies x = chain();
        same("17: versions", x.look(1), 4);
        for (int v = 1; v < 4; v++) {
            same("17: of which", x.kind(v, 2), v - 1);
            same("17: by whom", x.kind(v, 3), v - 1);
        }
        for (int v = 0; v < 4; v++) {
            same("17: children", x.kind(v, 4), 3 - v);
            same("17: letters", x.kind(v, 5), v == 3 ? 1 : 0);
            same("17: had", x.kind(v, 6), v == 3 ? 0 : 1);
        }
        same("17: another what", x.kind(0, 7), NONE - 1);
        same("17: a what below", x.kind(0, -1), NONE - 1);
        same("17: no such one", x.kind(4, 0), NONE - 1);
        same("17: one below", x.kind(-1, 0), NONE - 1);
        x.hand(2, 3);
        same("17: in hands and on the way", x.kind(3, 5), 2);
        same("17: had now", x.kind(3, 6), 1);
    }

    private static void post() {
        NineCopies x = new NineCopies();
        for (int[] w : new int[][] {{-1, 0}, {6, 0}, {0, -1}, {0, 6}}) {
            same("18: none such", x.post(w[0], w[1]), NONE);
        }
        Check.tell(x, 2, "post 1 to 2 in 5; post 3 to 3 in 4; post 2 to 1 in 6; post 5 to 1 in 20;");
        same("18: a later line", x.post(1, 2), 6);
        same("18: both ways", x.post(2, 1), 6);
        same("18: in town", x.post(3, 3), 4);
        same("18: in another town", x.post(2, 2), 1);
        same("18: not told", x.post(0, 4), 1);
        same("18: far", x.post(1, 5), 20);
        Check.tell(x, 2, "post 0 to 4 in 2;");
        same("18: told anew", x.post(0, 4), 2);
        same("18: what was told is gone", x.post(1, 2), 1);
    }

    private static void many() {
        NineCopies x = Given.inTowns(0, 1, 1, 2);
        x.version(1, 0);
        x.set(6, 0, 2);
        x.set(7, 0, 4);
        for (int p = 0; p < 3; p++) {
            x.set(3, p, 9);
            x.address(p, p + 1);
        }
        x.set(8, 0, 1000);
        x.hand(0, 0);
        same("20: now", x.many(0, 0), 1);
        same("20: a day on", x.many(1, NONE), 1);
        same("20: two days on he is freed", x.many(2, 0), 0);
        same("20: in another town", x.many(2, 1), 1);
        // The second got one of each day from the first, the third one of the second's; each wrote one of two.
        same("20: two of them", x.many(3, 1), 2);
        same("20: none in a town of nobody", x.many(3, 5), 0);
        same("20: below", x.many(-1, 0), NONE);
        same("20: above", x.many(100, 0), NONE);
        same("20: no such town", x.many(0, 6), NONE);
        same("20: no such town below", x.many(0, -2), NONE);
        same("20: at the most days", x.many(99, NONE), 0);
        same("20: nothing of it stays", x.look(2), 0);
        same("20: no letters", x.look(3), 0);
        same("20: no draws", x.look(6), 0);
        same("20: no versions", x.look(1), 1);
        same("20: no book", x.look(5), 0);
        same("20: what can be undone stays", x.look(13), 1);
    }

    private static void over() {
        NineCopies x = Given.ring(3, 1, 5, 2);
        same("21: over at once", x.over(), 0);
        x.hand(0, 0);
        same("21: when the paper is gone and the last is cursed", x.over(), 12);
        same("21: nothing of it stays", x.look(2), 0);
        x.set(9, 0, 1);
        same("21: not with frost", x.over(), NONE);
        x.set(9, 0, 0);
        x.set(8, 0, 1000);
        same("21: no blots in thought", x.over(), 12);
        same("21: no state", x.look(6), 0);
        NineCopies y = Given.inTowns(0, 0);
        y.version(1, 0);
        y.set(1, 0, 2);
        y.hand(0, 0);
        same("21: convents do not count", y.over(), 0);
        y.set(7, 0, 20);
        y.hand(1, 0);
        same("21: due on day 20", y.over(), 21);
        NineCopies z = Given.ring(2, 9, 20, 99);
        z.set(6, 0, 9);
        Check.tell(z, 2, "post 0 to 0 in 20;");
        z.hand(0, 0);
        same("21: slow post", z.over(), 49);
    }

    private static void stop() {
        NineCopies x = Given.inTowns(0, 0, 0, 0, 0, 0);
        x.version(1, 0);
        x.set(6, 0, 3);
        x.set(7, 0, 2);
        Check.tell(x, 0, "write 9;");
        for (int p = 0; p < 6; p++) {
            x.set(3, p, 99);
        }
        x.address(0, 1);
        x.address(0, 2);
        x.address(0, 3);
        x.address(1, 4);
        x.address(2, 4);
        x.address(3, 5);
        x.hand(0, 0);
        same("22: over by then all the same", x.stop(20), 0);
        same("22: not by then", x.stop(1), NONE);
        same("22: the first alone", x.stop(3), 1);
        x.days(1);
        same("22: now over by four", x.stop(4), 0);
        same("22: those to whom he wrote", x.stop(3), 14);
        same("22: three are not enough", x.stop(2), NONE);
        same("22: above", x.stop(100), NONE);
        same("22: below", x.stop(-1), NONE);
        same("22: nothing of it stays", x.of(1, 5), 0);
        NineCopies y = Given.ring(5, 2, 3, 99);
        Check.tell(y, 0, "write 9;");
        y.hand(3, 0);
        same("22: the least of several sets of one", y.stop(8), 1);
        same("22: fewer days, the next one", y.stop(7), 1);
        same("22: as late as it can be", y.stop(6), 1);
        same("22: nearer by", y.stop(5), 8);
        same("22: nearest", y.stop(4), 8);
    }

    private static void reach() {
        NineCopies x = Given.inTowns(0, 0, 0, 0, 0);
        same("23: nobody", x.reach(5), NONE);
        same("23: below", x.reach(-1), NONE);
        same("23: without a row", x.reach(0), 0);
        for (int p = 0; p < 4; p++) {
            x.address(p, p + 1);
        }
        same("23: all behind him", x.reach(1), 28);
        x.address(4, 0);
        same("23: himself when it comes back", x.reach(1), 31);
        x.set(5, 3, 1);
        same("23: not on from a stopped one", x.reach(1), 12);
        same("23: a stopped one himself", x.reach(3), 31);
        x.set(5, 3, 0);
        x.set(1, 0, 1);
        same("23: not on from a burner", x.reach(1), 29);
        same("23: a burner himself", x.reach(0), 31);
        x.set(1, 0, 2);
        same("23: not on from a convent", x.reach(1), 29);
        same("23: a convent himself", x.reach(0), 31);
    }

    private static void sources() {
        NineCopies x = Given.inTowns(0, 0, 0, 0, 0);
        for (int p = 0; p < 4; p++) {
            x.address(p, p + 1);
        }
        same("24: by one step", x.sources(16, 1), 24);
        same("24: by two steps", x.sources(16, 2), 28);
        same("24: by fifteen", x.sources(16, 15), 31);
        same("24: of two, himself but for it", x.sources(24, 1), 8);
        same("24: of two by three", x.sources(24, 3), 14);
        same("24: of all", x.sources(31, 4), 1);
        same("24: of one without any but himself", x.sources(1, 15), 1);
        same("24: the empty set", x.sources(0, 1), NONE);
        same("24: nobody in it", x.sources(32, 1), NONE);
        same("24: below", x.sources(-1, 1), NONE);
        same("24: no steps", x.sources(1, 0), NONE);
        same("24: too many steps", x.sources(1, 16), NONE);
        x.set(5, 3, 1);
        same("24: not on from a stopped one", x.sources(16, 15), 24);
        same("24: nobody there", new NineCopies().sources(1, 1), NONE);
    }

    private static void circle() {
        NineCopies x = Given.ring(16, 1, 1, 1);
        same("25: all sixteen", x.circle(5), 16);
        x.address(9, 5);
        same("25: a shorter way", x.circle(5), 5);
        same("25: from within it", x.circle(7), 5);
        same("25: from without it", x.circle(10), 16);
        x.set(1, 5, 2);
        same("25: he himself whatever he is", x.circle(5), 5);
        same("25: another not over a convent", x.circle(7), NONE);
        x.set(1, 5, 0);
        x.set(5, 8, 1);
        same("25: not over a stopped one", x.circle(5), NONE);
        same("25: nobody", x.circle(16), NONE);
        same("25: below", x.circle(-1), NONE);
    }

    private static void pickAndJoin() {
        NineCopies x = new NineCopies();
        int[] marks = {0b0, 0b111, 0b1110000000, 0b1111, 0b0, 0b1111111111, 0b101010101, 0b1, 0b10};
        for (int m : marks) {
            x.version(0, m);
        }
        same("27: none", x.join(), 0);
        same("26: below", x.pick(-2), NONE);
        same("26: above", x.pick(9), NONE);
        int[] sums = {0, 3, 6, 7, 7, 7 + 4 + 2, 0, 0};
        int[] counts = {0, 3, 6, 7, 7};
        for (int v = 0; v < 8; v++) {
            same("26: how many", x.pick(v), v + 1);
            same("26: already", x.pick(v), NONE);
            if (v < counts.length) {
                same("27: join of " + v, x.join(), counts[v]);
            }
        }
        same("26: eight", x.pick(8), NONE);
        same("27: of eight", x.join(), leastTree(marks, 8));
        same("26: look", x.look(14), 8);
        same("26: none then", x.pick(NONE), 0);
        same("27: none then", x.join(), 0);
        same("26: the ninth now", x.pick(8), 1);
        same("27: one", x.join(), 0);
        // A tree of the picked ones alone: no other version may stand between them.
        NineCopies y = new NineCopies();
        for (int m : new int[] {0b011, 0b101, 0b110}) {
            y.pick(y.version(0, m));
        }
        same("27: no point between them", y.join(), 4);
    }

    /** Of all trees, told by their Pruefer rows. */
    private static int leastTree(int[] marks, int n) {
        int least = Integer.MAX_VALUE;
        int rows = (int) Math.pow(n, n - 2);
        for (int row = 0; row < rows; row++) {
            int[] degree = new int[n];
            int[] sequence = new int[n - 2];
            java.util.Arrays.fill(degree, 1);
            for (int i = 0, rest = row; i < n - 2; i++, rest /= n) {
                sequence[i] = rest % n;
                degree[sequence[i]]++;
            }
            int sum = 0;
            for (int to : sequence) {
                int leaf = 0;
                while (degree[leaf] != 1) {
                    leaf++;
                }
                degree[leaf]--;
                degree[to]--;
                sum += Integer.bitCount(marks[leaf] ^ marks[to]);
            }
            int first = NONE;
            for (int i = 0; i < n; i++) {
                if (degree[i] == 1 && first == NONE) {
                    first = i;
                } else if (degree[i] == 1) {
                    sum += Integer.bitCount(marks[first] ^ marks[i]);
                }
            }
            least = Math.min(least, sum);
        }
        return least;
    }

    private static void forebear() {
        NineCopies x = Given.inTowns(0, 0, 0);
        x.version(1, 0);
        x.version(1, 0);
        x.set(3, 0, 99);
        x.set(3, 1, 99);
        x.address(0, 1);
        x.address(1, 2);
        x.set(8, 0, 1000);
        x.hand(0, 0);
        Check.tell(x, 0, "write 3;");
        x.days(1);
        // 2, 3, 4 came of 0; of each of them three more come.
        x.days(1);
        same("28: versions", x.look(1), 5 + 3 + 9);
        int first = NONE;
        int second = NONE;
        for (int v = 5; v < 17; v++) {
            if (x.kind(v, 2) == 2 && first == NONE) {
                first = v;
            } else if (x.kind(v, 2) == 2) {
                second = v;
            }
        }
        same("28: of two of the same one", x.forebear(first, second), 2);
        same("28: of one and its own", x.forebear(second, 2), 2);
        same("28: the other way round", x.forebear(2, second), 2);
        same("28: of cousins", x.forebear(first, 3), 0);
        same("28: of siblings", x.forebear(2, 4), 0);
        same("28: one itself", x.forebear(4, 4), 4);
        same("28: of strangers", x.forebear(1, first), NONE);
        same("28: none such", x.forebear(17, 0), NONE);
        same("28: none such below", x.forebear(0, -1), NONE);
    }

    private static void lasts() {
        NineCopies x = Given.inTowns(0, 0, 0);
        x.person(0, 2, 0);
        x.set(7, 0, 3);
        x.version(7, 0);
        x.version(2, 0);
        x.version(7, 1);
        same("29: none", x.lasts(0), NONE);
        x.hand(0, 0);
        x.hand(0, 1);
        same("29: of several the least", x.lasts(0), 2);
        x.hand(1, 2);
        same("29: the curse, not the version", x.lasts(0), 7);
        x.hand(3, 1);
        same("29: convents' hands too", x.lasts(0), 2);
        same("29: then those alone", x.lasts(4), 2);
        x.burn(3, 0);
        same("29: none then", x.lasts(4), NONE);
        same("29: below", x.lasts(-1), NONE);
        same("29: above", x.lasts(100), NONE);
        same("29: nothing of it stays", x.look(2), 0);
    }

    private static void knows() {
        NineCopies x = Given.inTowns(0, 0, 0);
        x.version(0, 0);
        x.version(0, 0);
        x.hand(0, 0);
        x.hand(2, 0);
        x.hand(2, 1);
        x.hand(2, 1);
        same("30: none at least", x.knows(0), 7);
        same("30: one", x.knows(1), 5);
        same("30: two", x.knows(2), 4);
        same("30: three", x.knows(3), 0);
        same("30: forty", x.knows(40), 0);
        same("30: above", x.knows(41), NONE);
        same("30: below", x.knows(-1), NONE);
        x.burn(2, 0);
        x.burn(2, 0);
        x.burn(2, 0);
        same("30: what he had he had", x.knows(2), 4);
    }

    private static void undo() {
        NineCopies x = chain();
        same("31: four", x.look(13), 4);
        x.pick(3);
        x.pick(0);
        x.pick(2);
        int state = x.look(6);
        x.days(1);
        Check.yes("31: a day", x.undo());
        same("31: day", x.look(2), 3);
        same("31: state", x.look(6), state);
        same("31: versions", x.look(1), 4);
        Check.yes("31: another day", x.undo());
        same("31: those that came by it are picked no more", x.look(14), 2);
        same("31: picked and there", x.pick(0), NONE);
        same("31: the other too", x.pick(2), NONE);
        same("31: paper", x.of(2, 3), 90);
        same("31: next", x.of(0, 8), 0);
        same("31: book", x.look(5), 1);
        same("31: freed", x.look(7), 2);
        same("31: sent", x.of(2, 10), 0);
        same("31: had", x.of(2, 9), 0);
        same("31: on the way", x.onWay(0, 2), 2);
        x.undo();
        x.undo();
        same("31: before the hand", x.look(13), 1);
        same("31: the letter", x.look(4), 1);
        Check.yes("31: the hand", x.undo());
        same("31: no letter", x.look(4), 0);
        same("31: nor had", x.of(0, 9), 0);
        Check.no("31: nothing", x.undo());
        undoOfSix();
        undoForgotten();
        undoOfLuck();
    }

    private static void undoOfSix() {
        NineCopies x = Given.inTowns(0);
        x.version(0, 0);
        for (int i = 0; i < 3; i++) {
            x.hand(0, 0);
        }
        for (int i = 0; i < 4; i++) {
            x.burn(0, 0);
        }
        same("31: six, what could not be is none", x.look(13), 6);
        for (int i = 0; i < 6; i++) {
            Check.yes("31: one of six", x.undo());
        }
        Check.no("31: no seventh", x.undo());
        same("31: at none", x.of(0, 6), 0);
        NineCopies y = Given.inTowns(0);
        y.days(5);
        y.days(60);
        same("31: six days", y.look(13), 6);
        for (int i = 0; i < 6; i++) {
            y.undo();
        }
        same("31: day", y.look(2), 59);
        Check.no("31: no more", y.undo());
        y.days(2);
        y.undo();
        y.days(7);
        same("31: six again", y.look(13), 6);
        y.undo();
        same("31: day again", y.look(2), 66);
        y.days(3);
        y.undo();
        y.undo();
        y.undo();
        y.undo();
        y.undo();
        same("31: two were two further back", y.look(2), 64);
    }

    private static void undoForgotten() {
        for (int what = 0; what < 14; what++) {
            NineCopies x = Given.inTowns(0, 0);
            x.version(0, 0);
            x.image(true);
            x.hand(0, 0);
            boolean forgets = what < 7;
            switch (what) {
                case 0: x.state(0); break;
                case 1: x.person(0, 0, 0); break;
                case 2: x.set(4, 0, 0); break;
                case 3: x.set(9, 0, 0); break;
                case 4: x.address(0, 1); break;
                case 5: x.address(0, NONE); break;
                case 6: x.version(0, 0); break;
                case 7: x.pick(0); break;
                case 8: Check.tell(x, 0, "write 1;"); break;
                case 9: x.image(true); break;
                case 10: Check.tell(x, 2, "post;"); break;
                case 11: x.set(4, 0, -1); x.address(0, 0); x.version(10, 0); x.person(6, 0, 0); break;
                case 12: x.over(); x.stop(5); x.many(5, 0); x.lasts(5); break;
                default: x.pick(NONE); x.days(0); x.hand(9, 0); x.burn(0, 1); break;
            }
            same("31: can be undone behind " + what, x.look(13), forgets ? 0 : 1);
            same("31: undone behind " + what, x.undo() ? 1 : 0, forgets ? 0 : 1);
        }
        NineCopies x = Given.inTowns(0);
        x.version(0, 0);
        x.hand(0, 0);
        Check.tell(x, 0, "write 7;");
        x.pick(0);
        x.undo();
        same("31: a text stays", x.look(10), 1);
        same("31: what is picked stays", x.look(14), 1);
    }

    private static void undoOfLuck() {
        NineCopies x = Given.inTowns(0);
        x.version(3, 0);
        x.set(4, 0, 50);
        x.set(7, 0, 1);
        x.hand(0, 0);
        x.days(2);
        same("31: cursed", x.look(8), 1);
        same("31: coin", x.of(0, 4), 23);
        x.undo();
        same("31: not cursed", x.look(8), 0);
        same("31: coin as it was", x.of(0, 4), 50);
        same("31: due as it was", x.letter(0, 0, 2), 1);
    }

    private static void image() {
        NineCopies x = chain();
        Check.no("32: none", x.image(false));
        same("32: that forgets nothing", x.look(13), 4);
        x.pick(2);
        Check.tell(x, 0, "write 1; write 2;");
        Check.tell(x, 1, "ill 7;");
        Check.tell(x, 2, "post 0 to 1 in 9;");
        Check.yes("32: taken", x.image(true));
        same("32: the taking forgets nothing", x.look(13), 4);
        int[] before = looks(x);
        for (int round = 0; round < 2; round++) {
            x.days(2);
            x.person(1, 1, 1);
            x.set(3, 4, 44);
            x.set(6, 0, 2);
            x.set(8, 0, 0);
            x.address(0, 2);
            x.version(9, 9);
            x.pick(0);
            x.pick(1);
            x.state(5);
            Check.tell(x, 0, "");
            Check.tell(x, 1, "ill 8; ill 9;");
            Check.tell(x, 2, "");
            Check.faulty(x, 2, "post 6", 2, 5);
            Check.tape(x, "write 8;");
            Check.yes("32: gone back to", x.image(false));
            int[] behind = looks(x);
            for (int i = 0; i < before.length; i++) {
                same("32: as it was, what " + i, behind[i], i == 13 ? 0 : before[i]);
            }
            Check.no("32: nothing can be undone", x.undo());
            same("32: luck", x.letter(3, 0, 5), NONE - 1);
            same("32: post", x.post(0, 1), 9);
            same("32: row", x.of(0, 7), 1);
            same("32: the fault stays", x.fault(0), 2);
            same("32: its place too", x.fault(1), 5);
            Check.yes("32: the tape stays", x.end(8));
            same("32: picked is picked", x.pick(2), NONE);
            same("32: one who came behind it is gone", x.of(4, 0), NONE);
        }
        same("32: another in his place has nothing of him", x.person(2, 0, 0), 4);
        same("32: paper of another", x.of(4, 3), 0);
        x.days(1);
        Check.yes("32: it stays there", x.image(false));
        same("32: it goes on from there", x.look(2), 3);
    }

    private static int[] looks(NineCopies x) {
        int[] all = new int[24];
        for (int what = 0; what < 24; what++) {
            all[what] = x.look(what);
        }
        return all;
    }

    private static void look() {
        NineCopies x = chain();
        int[] wants = {4, 4, 3, 1, 0, 2, x.state(0), 3, 0, 0, 0, 0, 0, 0, 0};
        x.state(wants[6]);
        for (int what = 0; what < wants.length; what++) {
            same("33: what " + what, x.look(what), wants[what]);
        }
        for (int what : new int[] {-1, 15, 16, 17, 18, 19, 24, Integer.MAX_VALUE, Integer.MIN_VALUE}) {
            same("33: what " + what, x.look(what), NONE);
        }
        same("33: copies", x.look(20), 1);
        same("33: blots", x.look(22), 1000);
    }
}
