/** The boundary cases of the terms and of 1 TOWNS and PEOPLE, a sentence a test: promises 1 to 8, 14, 17 and 33. */
public final class BoundsOfPeopleTest {
    private static final int NONE = NineCopies.NONE;

    public static void main(String[] args) {
        nobodyAtFirst();
        fiveHundredAndTwelveCalls();
        stateIsAnInt();
        townsAreSix();
        kindsAreThree();
        lazyToNinetyNine();
        aRefusedPersonTakesNoNumber();
        sixteenPeople();
        paperToNinetyNine();
        coinToThousands();
        notStoppedAtFirst();
        nineAddresses();
        otherPeopleAreAddresses();
        anAddressMoreThanOnce();
        rowIsEmptied();
        nextIsAPlaceInTheRow();
        hadIsASet();
        hadOfForty();
        curseToNine();
        marksAreTen();
        fortyVersions();
        versionsComeOfNone();
        copiesOneToNine();
        termOneToTwenty();
        blotsToThousand();
        frostOrNot();
        otherWhatsAreNotSet();
        personIsAskedToFive();
        threeLettersInHands();
        handedToNoBurner();
        handedOfAVersionThereIs();
        handedToAPersonThereIs();
        handedFromNone();
        burntAreThere();
        thoseBehindComeAhead();
        whatsOfAPerson();
        addressesOfAPerson();
        whatsOfAKind();
        whatsOfALook();
        Check.finish("BoundsOfPeopleTest");
    }

    private static void nobodyAtFirst() {
        Check.sentence("1: Nobody there, no letters.");
        NineCopies x = new NineCopies();
        for (int what = 0; what <= 14; what++) {
            Check.same("look " + what, x.look(what), 0);
        }
        Check.same("a person", x.of(0, 0), NONE);
        Check.same("a letter", x.letter(0, 0, 0), NONE - 1);
        Check.same("a letter on the way", x.onWay(0, 0), NONE);
        Check.same("a version", x.kind(0, 0), NONE - 1);
        Check.same("a line", x.book(0, 0), NONE - 1);
        Check.no("a letter to burn", x.burn(0, 0));
        Check.no("a letter to hand", x.hand(0, 0));
        Check.no("an act to undo", x.undo());
        Check.no("an image", x.image(false));
        Check.no("a byte", x.end(1));
        Check.same("NONE", NONE, -1);
        Check.same("over", x.over(), 0);
        Check.same("many", x.many(99, NONE), 0);
        Check.same("the first is 0", x.person(0, 0, 0), 0);
        Check.same("the first version is 0", x.version(0, 0), 0);
    }

    private static void fiveHundredAndTwelveCalls() {
        Check.sentence("An object is used for at most 512 calls after it has been made.");
        NineCopies x = Given.people(1);
        for (int call = 2; call <= 512; call++) {
            Check.same("call " + call, x.state(call), call == 2 ? 0 : call - 1);
        }
        NineCopies y = new NineCopies();
        for (int call = 1; call <= 512; call++) {
            Check.same("day by call " + call, call % 2 == 1 ? y.days(1) : y.look(2), call % 2 == 1 ? 0 : call / 2);
        }
    }

    private static void stateIsAnInt() {
        Check.sentence("STATE of draws (an int, 0 at first)");
        NineCopies x = new NineCopies();
        int was = 0;
        for (int v : new int[] {Integer.MIN_VALUE, Integer.MAX_VALUE, -1, 1, 0}) {
            Check.same("what it was", x.state(v), was);
            Check.same("what it is", x.look(6), v);
            was = v;
        }
    }

    private static void townsAreSix() {
        Check.sentence("TOWNS 0 .. 5.");
        boundsOfPerson(0, 5);
    }

    private static void kindsAreThree() {
        Check.sentence("a KIND 0 .. 2 (0 plain, 1 a burner, 2 a convent)");
        boundsOfPerson(1, 2);
    }

    private static void lazyToNinetyNine() {
        Check.sentence("LAZY 0 .. 99");
        boundsOfPerson(2, 99);
    }

    private static int personWith(NineCopies x, int what, int v) {
        return x.person(what == 0 ? v : 0, what == 1 ? v : 0, what == 2 ? v : 0);
    }

    /** What is told when a person comes, and may be set then. */
    private static void boundsOfPerson(int what, int most) {
        NineCopies x = new NineCopies();
        Check.same("below", personWith(x, what, -1), NONE);
        Check.same("least", personWith(x, what, 0), 0);
        Check.same("most", personWith(x, what, most), 1);
        Check.same("above", personWith(x, what, most + 1), NONE);
        Check.same("the least is his", x.of(0, what), 0);
        Check.same("the most is his", x.of(1, what), most);
        Check.no("set below", x.set(what, 1, -1));
        Check.no("set above", x.set(what, 0, most + 1));
        Check.same("they stay, least", x.of(0, what), 0);
        Check.same("they stay, most", x.of(1, what), most);
        Check.yes("set to the most", x.set(what, 0, most));
        Check.yes("set to the least", x.set(what, 1, 0));
        Check.same("set is his, most", x.of(0, what), most);
        Check.same("set is his, least", x.of(1, what), 0);
        for (int other = 0; other < 3; other++) {
            if (other != what) {
                Check.same("what else is told of him", x.of(0, other), 0);
            }
        }
    }

    private static void aRefusedPersonTakesNoNumber() {
        Check.sentence("3: NONE if one can't be");
        NineCopies x = new NineCopies();
        int[][] refused = {{-1, 0, 0}, {6, 0, 0}, {0, -1, 0}, {0, 3, 0}, {0, 0, -1}, {0, 0, 100},
            {Integer.MIN_VALUE, 0, 0}, {Integer.MAX_VALUE, 0, 0}, {0, Integer.MIN_VALUE, 0}, {0, 0, Integer.MAX_VALUE}};
        for (int[] one : refused) {
            Check.same("refused", x.person(one[0], one[1], one[2]), NONE);
            Check.same("nobody came", x.look(0), 0);
        }
        Check.same("the first one still is 0", x.person(5, 2, 99), 0);
    }

    private static void sixteenPeople() {
        Check.sentence("PEOPLE 0 .. 15 as they come; NONE if there are sixteen");
        NineCopies x = new NineCopies();
        for (int p = 0; p < 16; p++) {
            Check.same("not there yet", x.of(p, 0), NONE);
            Check.same("the number", x.person(p % 6, 0, 0), p);
            Check.same("how many", x.look(0), p + 1);
            Check.same("there now", x.of(p, 0), p % 6);
        }
        Check.same("the seventeenth", x.person(1, 0, 0), NONE);
        Check.same("sixteen are there", x.look(0), 16);
        Check.same("no number 16", x.of(16, 0), NONE);
        Check.same("the last is as he came", x.of(15, 0), 3);
    }

    private static void paperToNinetyNine() {
        Check.sentence("PAPER 0 .. 99");
        boundsOfSet(3, 0, 99);
    }

    private static void coinToThousands() {
        Check.sentence("COIN 0 .. 9999");
        boundsOfSet(4, 0, 9999);
    }

    private static void notStoppedAtFirst() {
        Check.sentence("STOPPED or not (not at first); 5 STOPPED (0, 1)");
        boundsOfSet(5, 0, 1);
    }

    /** What is told of a person and is 0 at first. */
    private static void boundsOfSet(int what, int least, int most) {
        NineCopies x = Given.people(2);
        Check.same("at first", x.of(0, what), 0);
        Check.no("below", x.set(what, 0, least - 1));
        Check.no("above", x.set(what, 0, most + 1));
        Check.no("far below", x.set(what, 0, Integer.MIN_VALUE));
        Check.no("far above", x.set(what, 0, Integer.MAX_VALUE));
        Check.same("as it was", x.of(0, what), 0);
        Check.yes("most", x.set(what, 0, most));
        Check.same("most is his", x.of(0, what), most);
        Check.no("above the most", x.set(what, 0, most + 1));
        Check.same("most stays his", x.of(0, what), most);
        Check.same("the other's is as it was", x.of(1, what), 0);
        Check.yes("least", x.set(what, 0, least));
        Check.same("least is his", x.of(0, what), least);
    }

    private static void nineAddresses() {
        Check.sentence("a ROW of up to nine ADDRESSES; NONE if it has nine");
        NineCopies x = Given.people(11);
        for (int to = 1; to <= 9; to++) {
            Check.same("how many", x.address(0, to), to);
            Check.same("as many", x.of(0, 7), to);
            Check.same("it is the last", x.of(0, 19 + to), to);
        }
        Check.same("the tenth", x.address(0, 10), NONE);
        Check.same("nine are there", x.of(0, 7), 9);
        Check.same("the ninth", x.of(0, 28), 9);
        Check.same("no tenth", x.of(0, 29), NONE);
        Check.same("another's row has room", x.address(1, 10), 1);
    }

    private static void otherPeopleAreAddresses() {
        Check.sentence("ADDRESSES (other PEOPLE); NONE if one can't be (himself)");
        NineCopies x = Given.people(3);
        Check.same("himself, the first", x.address(0, 0), NONE);
        Check.same("himself, the last", x.address(2, 2), NONE);
        Check.same("the first", x.address(2, 0), 1);
        Check.same("the last", x.address(0, 2), 1);
        Check.same("one behind the last", x.address(0, 3), NONE);
        Check.same("one below NONE", x.address(0, -2), NONE);
        Check.same("far below", x.address(0, Integer.MIN_VALUE), NONE);
        Check.same("far above", x.address(0, Integer.MAX_VALUE), NONE);
        Check.same("of one behind the last", x.address(3, 0), NONE);
        Check.same("of one below", x.address(-1, 0), NONE);
        Check.same("of nobody to nobody", x.address(3, 3), NONE);
        Check.same("one is in his row", x.of(0, 7), 1);
        Check.same("none in the second's", x.of(1, 7), 0);
        Check.same("none came behind his", x.of(0, 21), NONE);
    }

    private static void anAddressMoreThanOnce() {
        Check.sentence("a ROW of ADDRESSES (also one more than once)");
        NineCopies x = Given.people(2);
        for (int i = 1; i <= 9; i++) {
            Check.same("the same one again", x.address(0, 1), i);
        }
        Check.same("the tenth", x.address(0, 1), NONE);
    }

    private static void rowIsEmptied() {
        Check.sentence("5: (NONE: it is empty then, NEXT 0)");
        NineCopies x = Given.writer(1, 9);
        Check.same("a third one", x.person(0, 0, 0), 2);
        x.address(0, 2);
        x.hand(0, 0);
        x.days(1);
        Check.same("next ahead of it", x.of(0, 8), 1);
        Check.same("nobody's row", x.address(3, NONE), NONE);
        Check.same("the row of one below", x.address(NONE, NONE), NONE);
        Check.same("next stays", x.of(0, 8), 1);
        Check.same("none is left", x.address(0, NONE), 0);
        Check.same("none is there", x.of(0, 7), 0);
        Check.same("next is 0", x.of(0, 8), 0);
        Check.same("no first one", x.of(0, 20), NONE);
        Check.same("an empty row is emptied too", x.address(0, NONE), 0);
        Check.same("the first one anew", x.address(0, 2), 1);
        Check.same("it is there", x.of(0, 20), 2);
        Check.same("it alone", x.of(0, 21), NONE);
        for (int i = 2; i <= 9; i++) {
            x.address(0, 2);
        }
        Check.same("a full row is emptied too", x.address(0, NONE), 0);
    }

    private static void nextIsAPlaceInTheRow() {
        Check.sentence("NEXT: a place in it (0 at first); NEXT is one further (round)");
        NineCopies x = Given.writer(9, 99);
        x.person(0, 0, 0);
        Check.same("at first", x.of(0, 8), 0);
        Given.row(x, 0, 2, 1);
        Check.tell(x, 0, "write 1;");
        x.hand(0, 0);
        int[] next = {1, 2, 0, 1, 2, 0};
        int[] tos = {1, 2, 1, 1, 2, 1};
        for (int i = 0; i < next.length; i++) {
            x.days(1);
            Check.same("next behind " + (i + 1), x.of(0, 8), next[i]);
            Check.same("to whom", x.onWay(x.look(3) - 1, 2), tos[i]);
        }
        NineCopies y = Given.writer(9, 99);
        y.hand(0, 0);
        y.days(1);
        Check.same("round a row of one", y.of(0, 8), 0);
    }

    private static void hadIsASet() {
        Check.sentence("HAD: the set of VERSIONS that he held so far.");
        NineCopies x = Given.people(2);
        x.version(1, 0);
        x.version(1, 0);
        Check.same("none at first", x.of(0, 9), 0);
        x.hand(0, 0);
        x.hand(0, 0);
        Check.same("one of two letters", x.of(0, 9), 1);
        Check.same("it is known", x.kind(0, 6), 1);
        Check.same("the other is not", x.kind(1, 6), 0);
        x.burn(0, 0);
        x.burn(0, 0);
        Check.same("what he held he held", x.of(0, 9), 1);
        Check.same("it is known still", x.kind(0, 6), 1);
        x.hand(0, 1);
        Check.same("two", x.of(0, 9), 2);
        Check.same("the other person none", x.of(1, 9), 0);
    }

    private static void hadOfForty() {
        Check.sentence("HAD: of VERSIONS 0 .. 39");
        NineCopies x = Given.people(1);
        for (int v = 0; v < 40; v++) {
            x.version(0, 0);
        }
        int[] order = {39, 32, 31, 0};
        for (int i = 0; i < order.length; i++) {
            Check.same("not yet", x.kind(order[i], 6), 0);
            Check.yes("handed", x.hand(0, order[i]));
            Check.same("how many", x.of(0, 9), i + 1);
            Check.same("known", x.kind(order[i], 6), 1);
            x.burn(0, 0);
        }
        Check.same("another is not", x.kind(7, 6), 0);
        for (int v = 0; v < 40; v++) {
            x.hand(0, v);
            x.burn(0, 0);
        }
        Check.same("all", x.of(0, 9), 40);
    }

    private static void curseToNine() {
        Check.sentence("VERSIONS: CURSE 0 .. 9");
        NineCopies x = new NineCopies();
        Check.same("below", x.version(-1, 0), NONE);
        Check.same("above", x.version(10, 0), NONE);
        Check.same("far below", x.version(Integer.MIN_VALUE, 0), NONE);
        Check.same("far above", x.version(Integer.MAX_VALUE, 0), NONE);
        Check.same("none came", x.look(1), 0);
        Check.same("least", x.version(0, 0), 0);
        Check.same("most", x.version(9, 0), 1);
        Check.same("the least is its", x.kind(0, 0), 0);
        Check.same("the most is its", x.kind(1, 0), 9);
    }

    private static void marksAreTen() {
        Check.sentence("MARKS (a set of ten)");
        NineCopies x = new NineCopies();
        Check.same("below", x.version(0, -1), NONE);
        Check.same("an eleventh", x.version(0, 1024), NONE);
        Check.same("far below", x.version(0, Integer.MIN_VALUE), NONE);
        Check.same("far above", x.version(0, Integer.MAX_VALUE), NONE);
        Check.same("none came", x.look(1), 0);
        Check.same("no marks", x.version(0, 0), 0);
        Check.same("all ten", x.version(0, 1023), 1);
        Check.same("the tenth", x.version(0, 512), 2);
        Check.same("none are its", x.kind(0, 1), 0);
        Check.same("all are its", x.kind(1, 1), 1023);
        Check.same("the tenth is its", x.kind(2, 1), 512);
    }

    private static void fortyVersions() {
        Check.sentence("VERSIONS 0 .. 39 as they come; NONE if there are forty");
        NineCopies x = new NineCopies();
        for (int v = 0; v < 40; v++) {
            Check.same("not there yet", x.kind(v, 0), NONE - 1);
            Check.same("the number", x.version(v % 10, v), v);
            Check.same("there now", x.kind(v, 1), v);
        }
        Check.same("how many", x.look(1), 40);
        Check.same("the forty-first", x.version(0, 0), NONE);
        Check.same("forty are there", x.look(1), 40);
        Check.same("no number 40", x.kind(40, 0), NONE - 1);
        Check.same("the last is as it came", x.kind(39, 1), 39);
    }

    private static void versionsComeOfNone() {
        Check.sentence("of which VERSION it came (NONE), by whose hand (NONE)");
        NineCopies x = new NineCopies();
        x.version(1, 1);
        Check.same("of which", x.kind(0, 2), NONE);
        Check.same("by whose hand", x.kind(0, 3), NONE);
    }

    private static void copiesOneToNine() {
        Check.sentence("COPIES 1 .. 9 (9 at first)");
        boundsOfRule(6, 1, 9, 9);
    }

    private static void termOneToTwenty() {
        Check.sentence("TERM 1 .. 20 (9 at first)");
        boundsOfRule(7, 1, 20, 9);
    }

    private static void blotsToThousand() {
        Check.sentence("BLOTS 0 .. 1000 (0 at first)");
        boundsOfRule(8, 0, 1000, 0);
    }

    private static void frostOrNot() {
        Check.sentence("FROST 0, 1 (0 at first)");
        boundsOfRule(9, 0, 1, 0);
    }

    private static void boundsOfRule(int what, int least, int most, int first) {
        NineCopies x = new NineCopies();
        int seen = what + 14;
        Check.same("at first", x.look(seen), first);
        Check.no("below", x.set(what, 0, least - 1));
        Check.no("above", x.set(what, 0, most + 1));
        Check.no("far below", x.set(what, 0, Integer.MIN_VALUE));
        Check.no("far above", x.set(what, 0, Integer.MAX_VALUE));
        Check.same("as it was", x.look(seen), first);
        Check.yes("least", x.set(what, 0, least));
        Check.same("least stands", x.look(seen), least);
        Check.no("below the least", x.set(what, 0, least - 1));
        Check.same("least stays", x.look(seen), least);
        Check.yes("most", x.set(what, 0, most));
        Check.same("most stands", x.look(seen), most);
        for (int other = 20; other < 24; other++) {
            if (other != seen) {
                Check.same("another rule", x.look(other), other < 22 ? 9 : 0);
            }
        }
    }

    private static void otherWhatsAreNotSet() {
        Check.sentence("4: false if one can't be, or another what.");
        NineCopies x = Given.people(1);
        int[] due = Given.seen(x);
        for (int what : new int[] {-1, 10, 16, 20, 32, Integer.MIN_VALUE, Integer.MAX_VALUE}) {
            Check.no("what " + what, x.set(what, 0, 1));
        }
        Check.all("nothing is changed", Given.seen(x), due);
    }

    private static void personIsAskedToFive() {
        Check.sentence("4: Of a PERSON what 0 .. 5; 6 .. 9 (PERSON not asked)");
        NineCopies x = Given.people(2);
        for (int what = 0; what < 10; what++) {
            for (int person : new int[] {-1, 2, 16, Integer.MIN_VALUE, Integer.MAX_VALUE}) {
                Check.same("nobody's " + what, x.set(what, person, 1) ? 1 : 0, what < 6 ? 0 : 1);
            }
            Check.yes("the first one's " + what, x.set(what, 0, 1));
            Check.yes("the last one's " + what, x.set(what, 1, 1));
        }
    }

    private static void threeLettersInHands() {
        Check.sentence("LETTERS in a PERSON's hands: 3 at most, in the order in which they came; fewer than 3");
        NineCopies x = Given.people(2);
        for (int v = 0; v < 4; v++) {
            x.version(0, 0);
        }
        for (int i = 0; i < 3; i++) {
            Check.yes("handed", x.hand(0, 2 - i));
            Check.same("how many", x.of(0, 6), i + 1);
        }
        Check.no("the fourth", x.hand(0, 3));
        Check.same("three are there", x.of(0, 6), 3);
        Check.same("the fourth was not had", x.of(0, 9), 3);
        for (int i = 0; i < 3; i++) {
            Check.same("in their order", x.letter(0, i, 0), 2 - i);
        }
        Check.same("no fourth", x.letter(0, 3, 0), NONE - 1);
        Check.yes("another has room", x.hand(1, 3));
        x.burn(0, 1);
        Check.yes("there is room again", x.hand(0, 3));
        Check.same("it is the last", x.letter(0, 2, 0), 3);
    }

    private static void handedToNoBurner() {
        Check.sentence("To HAND a LETTER to a PERSON who is no burner");
        NineCopies x = new NineCopies();
        x.version(0, 0);
        for (int kind = 0; kind < 3; kind++) {
            x.person(0, kind, 0);
            Check.same("kind " + kind, x.hand(kind, 0) ? 1 : 0, kind == 1 ? 0 : 1);
            Check.same("in hands of kind " + kind, x.of(kind, 6), kind == 1 ? 0 : 1);
        }
        Check.same("the burner had none", x.of(1, 9), 0);
        x.set(5, 0, 1);
        Check.yes("a stopped one", x.hand(0, 0));
        x.set(1, 0, 1);
        Check.no("one who became a burner", x.hand(0, 0));
        Check.same("he keeps what he has", x.of(0, 6), 2);
        x.set(1, 1, 0);
        Check.yes("one who is none any more", x.hand(1, 0));
    }

    private static void handedOfAVersionThereIs() {
        Check.sentence("7: false if it can't be (a VERSION that is not there)");
        NineCopies x = Given.people(1);
        Check.no("none is there", x.hand(0, 0));
        x.version(0, 0);
        x.version(0, 0);
        for (int version : new int[] {-1, 2, 40, Integer.MIN_VALUE, Integer.MAX_VALUE}) {
            Check.no("version " + version, x.hand(0, version));
        }
        Check.same("no letter", x.of(0, 6), 0);
        Check.yes("the first", x.hand(0, 0));
        Check.yes("the last", x.hand(0, 1));
    }

    private static void handedToAPersonThereIs() {
        Check.sentence("7: false if it can't be (a PERSON who is not there)");
        NineCopies x = new NineCopies();
        x.version(0, 0);
        Check.no("nobody is there", x.hand(0, 0));
        x.person(0, 0, 0);
        x.person(0, 0, 0);
        for (int person : new int[] {-1, 2, 16, Integer.MIN_VALUE, Integer.MAX_VALUE}) {
            Check.no("person " + person, x.hand(person, 0));
        }
        Check.same("no letter", x.look(4), 0);
        Check.yes("the first", x.hand(0, 0));
        Check.yes("the last", x.hand(1, 0));
    }

    private static void handedFromNone() {
        Check.sentence("FROM none, DUE is DAY and TERM, LEFT is COPIES");
        for (int copies : new int[] {1, 9}) {
            for (int term : new int[] {1, 20}) {
                NineCopies x = Given.people(1);
                x.version(0, 0);
                x.days(2);
                Given.rules(x, copies, term);
                x.hand(0, 0);
                Given.rules(x, 5, 5);
                Check.same("from", x.letter(0, 0, 1), NONE);
                Check.same("due", x.letter(0, 0, 2), 2 + term);
                Check.same("left", x.letter(0, 0, 3), copies);
            }
        }
    }

    private static void burntAreThere() {
        Check.sentence("8: true; false if there is none such.");
        NineCopies x = Given.people(2);
        x.version(0, 0);
        Check.no("of none", x.burn(0, 0));
        x.hand(0, 0);
        x.hand(0, 0);
        for (int i : new int[] {-1, 2, 3, Integer.MIN_VALUE, Integer.MAX_VALUE}) {
            Check.no("letter " + i, x.burn(0, i));
        }
        for (int person : new int[] {-1, 1, 2, Integer.MIN_VALUE, Integer.MAX_VALUE}) {
            Check.no("of person " + person, x.burn(person, 0));
        }
        Check.same("both are there", x.of(0, 6), 2);
        Check.same("two can be undone", x.look(13), 2);
        Check.yes("the last", x.burn(0, 1));
        Check.yes("the first", x.burn(0, 0));
        Check.no("none is left", x.burn(0, 0));
        Check.same("none freed", x.look(7), 0);
        Check.same("none cursed", x.look(8), 0);
        Check.same("none lost", x.look(9), 0);
        Check.same("no line", x.look(5), 0);
    }

    private static void thoseBehindComeAhead() {
        Check.sentence("To BURN the i-th LETTER of a PERSON: those behind it come one further ahead.");
        int[][] due = {{1, 2}, {0, 2}, {0, 1}};
        for (int i = 0; i < 3; i++) {
            NineCopies x = Given.people(1);
            for (int v = 0; v < 3; v++) {
                x.version(0, 0);
                Given.rules(x, 3 + v, 10 + v);
                x.hand(0, v);
            }
            x.burn(0, i);
            Check.same("how many", x.of(0, 6), 2);
            for (int k = 0; k < 2; k++) {
                Check.same("version", x.letter(0, k, 0), due[i][k]);
                Check.same("due", x.letter(0, k, 2), 10 + due[i][k]);
                Check.same("left", x.letter(0, k, 3), 3 + due[i][k]);
            }
            Check.same("no third", x.letter(0, 2, 0), NONE - 1);
        }
    }

    private static void whatsOfAPerson() {
        Check.sentence("14: NONE if there is none such, or another what.");
        NineCopies x = Given.people(2);
        for (int person : new int[] {-1, 2, 16, Integer.MIN_VALUE, Integer.MAX_VALUE}) {
            for (int what = 0; what <= 10; what++) {
                Check.same("nobody's " + what, x.of(person, what), NONE);
            }
        }
        for (int what = 0; what <= 10; what++) {
            Check.same("the last one's " + what, x.of(1, what), 0);
        }
        for (int what : new int[] {-1, 11, 12, 19, 20, 32, Integer.MIN_VALUE, Integer.MAX_VALUE}) {
            Check.same("what " + what, x.of(0, what), NONE);
        }
    }

    private static void addressesOfAPerson() {
        Check.sentence("14: 20 + i ADDRESS i");
        NineCopies x = Given.people(10);
        Given.row(x, 0, 9, 8, 7, 6, 5, 4, 3, 2, 1);
        Check.same("ahead of the first", x.of(0, 19), NONE);
        for (int i = 0; i < 9; i++) {
            Check.same("address " + i, x.of(0, 20 + i), 9 - i);
        }
        Check.same("behind the last", x.of(0, 29), NONE);
        x.address(1, 5);
        Check.same("one of one", x.of(1, 20), 5);
        Check.same("no second of one", x.of(1, 21), NONE);
    }

    private static void whatsOfAKind() {
        Check.sentence("17: NONE - 1 if there is none such, or another what.");
        NineCopies x = new NineCopies();
        x.version(3, 5);
        x.version(4, 6);
        for (int version : new int[] {-1, 2, 40, Integer.MIN_VALUE, Integer.MAX_VALUE}) {
            for (int what = 0; what <= 6; what++) {
                Check.same("what " + what + " of none such", x.kind(version, what), NONE - 1);
            }
        }
        for (int what : new int[] {-1, 7, 8, Integer.MIN_VALUE, Integer.MAX_VALUE}) {
            Check.same("what " + what, x.kind(0, what), NONE - 1);
        }
        int[] due = {4, 6, NONE, NONE, 0, 0, 0};
        for (int what = 0; what <= 6; what++) {
            Check.same("what " + what + " of the last", x.kind(1, what), due[what]);
        }
    }

    private static void whatsOfALook() {
        Check.sentence("33: NONE for another what.");
        NineCopies x = new NineCopies();
        x.set(9, 0, 1);
        for (int what : new int[] {-1, 15, 16, 17, 18, 19, 24, 25, Integer.MIN_VALUE, Integer.MAX_VALUE}) {
            Check.same("what " + what, x.look(what), NONE);
        }
        Check.same("the first", x.look(0), 0);
        Check.same("the last ahead of the gap", x.look(14), 0);
        Check.same("the first behind the gap", x.look(20), 9);
        Check.same("the last", x.look(23), 1);
    }
}
