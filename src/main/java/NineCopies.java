import java.util.Arrays;

/** Letters that must be written out or bring ill luck; ../shared/DOC.md says what each call answers. */
public final class NineCopies {
    public static final int NONE = -1;

    private static final int NO_SUCH = NONE - 1;
    private static final int TOWN_COUNT = 6;
    private static final int PEOPLE_MOST = 16;
    private static final int ROW_MOST = 9;
    private static final int HELD_MOST = 3;
    private static final int WAY_MOST = 60;
    private static final int VERSIONS_MOST = 40;
    private static final int CURSE_MOST = 9;
    private static final int MARK_COUNT = 10;
    private static final int BOOK_MOST = 200;
    private static final int TAPE_MOST = 400;
    private static final int PICKED_MOST = 8;
    private static final int UNDO_MOST = 6;
    private static final int DAY_MOST = 9999;
    private static final int DAYS_MOST = 60;
    private static final int THOUGHT_MOST = 99;
    private static final int OVER_MOST = 200;
    private static final int STEPS_MOST = 15;
    private static final int POST_MOST = 20;
    private static final int LINES_MOST = 16;
    private static final int OPEN_MOST = 8;
    private static final int WRITE_MOST = 9;
    private static final int ILL_MOST = 999;

    // What is told of a PERSON, by the numbers of set() and of().
    private static final int TOWN = 0;
    private static final int KIND = 1;
    private static final int LAZY = 2;
    private static final int PAPER = 3;
    private static final int COIN = 4;
    private static final int STOPPED = 5;

    private static final int PLAIN = 0;
    private static final int BURNER = 1;
    private static final int CONVENT = 2;

    // What is told for all; set() and look() count it from these numbers on.
    private static final int RULES_IN_SET = 6;
    private static final int RULES_IN_LOOK = 20;
    private static final int COPIES = 0;
    private static final int TERM = 1;
    private static final int BLOTS = 2;
    private static final int FROST = 3;
    private static final int RULE_COUNT = 4;

    // By the numbers of set().
    private static final int[] LEAST_TOLD = {0, 0, 0, 0, 0, 0, 1, 1, 0, 0};
    private static final int[] MOST_TOLD = {5, 2, 99, 99, 9999, 1, 9, 20, 1000, 1};

    // What becomes of a LETTER that comes, as THE BOOK tells it.
    private static final int HELD = 0;
    private static final int BURNT = 1;
    private static final int DONE_WITH = 2;
    private static final int TOO_MANY = 3;

    private static final int HANDS_TEXT = 0;
    private static final int LUCK_TEXT = 1;
    private static final int POST_TEXT = 2;

    // Kinds of TOKENS: a sign is its own kind, so the others stand above all signs.
    private static final int AT_END = 256;
    private static final int NUMBER = 257;
    private static final int NO_TOKEN = 258;
    private static final int FIRST_WORD = 300;
    private static final int WRITE = FIRST_WORD;
    private static final int ILL = FIRST_WORD + 1;
    private static final int WHEN = FIRST_WORD + 2;
    private static final int OR = FIRST_WORD + 3;
    private static final int AND = FIRST_WORD + 4;
    private static final int NOT = FIRST_WORD + 5;
    private static final int POST = FIRST_WORD + 6;
    private static final int TO = FIRST_WORD + 7;
    private static final int IN = FIRST_WORD + 8;
    private static final int FIRST_NAME = FIRST_WORD + 9;
    private static final String WORDS =
            "write ill when or and not post to in curse left kind lazy coin person day days paper held marks ";
    private static final int NAMES_OF_HANDS = 11;
    private static final int NAMES_OF_LUCK = 7;
    private static final int NUMBER_MOST = 9999;
    private static final int DIGITS_MOST = 4;

    private static final int CANNOT_STAND = 1;
    private static final int BAD_NUMBER = 2;
    private static final int TOO_MUCH = 3;

    // Steps of a LAW: numbers stand for themselves, names and operations above them.
    private static final int NAME_STEP = 10000;
    private static final int OPERATION_STEP = 20000;
    // Eight open brackets with two values waiting at each, and a comparison of sums of products in them, need 22.
    private static final int STACK_SIZE = 32;

    private static final int STOP_MOST = 3;
    // All sets of three at most of sixteen.
    private static final int STOP_TRIES = 697;
    // Sets of two at most as numbers of two digits, 0 for nobody; and a last one for all larger sets.
    private static final int WRITER_SLOTS = (PEOPLE_MOST + 1) * (PEOPLE_MOST + 1) + 1;

    private final World world = new World();
    private final Texts texts = new Texts();
    private final Picks picks = new Picks();

    private final World imageWorld = new World();
    private final Texts imageTexts = new Texts();
    private final Picks imagePicks = new Picks();
    private boolean imageTaken;

    private final World[] before = new World[UNDO_MOST];
    private int beforeCount;
    private int beforeNext;

    private final World thought = new World();
    private final int[] writers = new int[WRITER_SLOTS];
    private final Reader reader = new Reader();

    public NineCopies() {
        for (int i = 0; i < UNDO_MOST; i++) {
            before[i] = new World();
        }
    }

    public int state(int v) {
        int was = world.state;
        world.state = v;
        forgetBefore();
        return was;
    }

    public int person(int town, int kind, int lazy) {
        if (!canBeTold(TOWN, town) || !canBeTold(KIND, kind) || !canBeTold(LAZY, lazy)) {
            return NONE;
        }
        if (world.peopleCount == PEOPLE_MOST) {
            return NONE;
        }
        forgetBefore();
        return world.addPerson(town, kind, lazy);
    }

    public boolean set(int what, int person, int v) {
        if (!canBeTold(what, v)) {
            return false;
        }
        if (what >= RULES_IN_SET) {
            world.rules[what - RULES_IN_SET] = v;
        } else if (world.hasPerson(person)) {
            world.people[person].told[what] = v;
        } else {
            return false;
        }
        forgetBefore();
        return true;
    }

    public int address(int person, int to) {
        if (!world.hasPerson(person)) {
            return NONE;
        }
        Person who = world.people[person];
        if (to == NONE) {
            who.rowCount = 0;
            who.next = 0;
        } else if (world.hasPerson(to) && to != person && who.rowCount < ROW_MOST) {
            who.row[who.rowCount] = to;
            who.rowCount++;
        } else {
            return NONE;
        }
        forgetBefore();
        return who.rowCount;
    }

    public int version(int curse, int marks) {
        if (curse < 0 || curse > CURSE_MOST || marks < 0 || marks >= 1 << MARK_COUNT || world.versions.isFull()) {
            return NONE;
        }
        forgetBefore();
        return world.versions.add(curse, marks, NONE, NONE);
    }

    public boolean hand(int person, int version) {
        if (!world.hasPerson(person) || !world.versions.has(version)) {
            return false;
        }
        Person who = world.people[person];
        if (who.told[KIND] == BURNER || who.letters.isFull()) {
            return false;
        }
        keepBefore();
        world.give(person, version, NONE);
        return true;
    }

    public boolean burn(int person, int i) {
        if (!world.hasLetter(person, i)) {
            return false;
        }
        keepBefore();
        world.people[person].letters.remove(i);
        return true;
    }

    public int feed(int a, int b, int c, int d, int e) {
        return reader.append(a, b, c, d, e);
    }

    public boolean end(int n) {
        if (n < 0 || n > reader.size) {
            return false;
        }
        reader.size = n;
        return true;
    }

    public int text(int k) {
        int lines = NONE;
        reader.begin();
        if (k == HANDS_TEXT) {
            lines = reader.readLaw(texts.hands, WRITE, NAMES_OF_HANDS);
        } else if (k == LUCK_TEXT) {
            lines = reader.readLaw(texts.luck, ILL, NAMES_OF_LUCK);
        } else if (k == POST_TEXT) {
            lines = reader.readPost(texts.post);
        }
        reader.size = 0;
        return lines;
    }

    public int fault(int what) {
        switch (what) {
            case 0: return reader.fault;
            case 1: return reader.faultPlace;
            default: return NONE;
        }
    }

    public int days(int n) {
        if (n < 1 || n > DAYS_MOST || world.day + n > DAY_MOST) {
            return NONE;
        }
        int came = 0;
        for (int i = 0; i < n; i++) {
            // Days further back would be pushed out by the later ones anyhow.
            if (n - i <= UNDO_MOST) {
                keepBefore();
            }
            came += world.passDay(texts);
        }
        return came;
    }

    public int of(int person, int what) {
        if (!world.hasPerson(person)) {
            return NONE;
        }
        Person who = world.people[person];
        if (what >= 20 && what - 20 < who.rowCount) {
            return who.row[what - 20];
        }
        if (what >= TOWN && what <= STOPPED) {
            return who.told[what];
        }
        switch (what) {
            case 6: return who.letters.count;
            case 7: return who.rowCount;
            case 8: return who.next;
            case 9: return Long.bitCount(who.had);
            case 10: return who.sent;
            default: return NONE;
        }
    }

    public int letter(int person, int i, int what) {
        if (!world.hasLetter(person, i)) {
            return NO_SUCH;
        }
        Letters letters = world.people[person].letters;
        switch (what) {
            case 0: return letters.version[i];
            case 1: return letters.from[i];
            case 2: return letters.day[i];
            case 3: return letters.left[i];
            case 4: return world.copiesToWrite(person, i, texts.hands);
            case 5: return world.illLuck(person, i, texts.luck);
            case 6: return world.leastStamps(person, i, texts.post);
            default: return NO_SUCH;
        }
    }

    public int onWay(int i, int what) {
        Letters way = world.way;
        if (!way.has(i)) {
            return NONE;
        }
        switch (what) {
            case 0: return way.version[i];
            case 1: return way.from[i];
            case 2: return way.to[i];
            case 3: return way.day[i];
            default: return NONE;
        }
    }

    public int kind(int version, int what) {
        Versions versions = world.versions;
        if (!versions.has(version)) {
            return NO_SUCH;
        }
        switch (what) {
            case 0: return versions.curse[version];
            case 1: return versions.marks[version];
            case 2: return versions.parent[version];
            case 3: return versions.writer[version];
            case 4: return versions.countChildren(version);
            case 5: return world.countLettersOf(version);
            case 6: return world.isKnown(version) ? 1 : 0;
            default: return NO_SUCH;
        }
    }

    public int post(int a, int b) {
        if (!canBeTold(TOWN, a) || !canBeTold(TOWN, b)) {
            return NONE;
        }
        return texts.post.daysBetween(a, b);
    }

    public int book(int i, int what) {
        Book lines = world.book;
        if (i < 0 || i >= lines.count) {
            return NO_SUCH;
        }
        switch (what) {
            case 0: return lines.day[i];
            case 1: return lines.version[i];
            case 2: return lines.from[i];
            case 3: return lines.to[i];
            case 4: return lines.what[i];
            default: return NO_SUCH;
        }
    }

    public int many(int n, int town) {
        if ((town != NONE && !canBeTold(TOWN, town)) || !thinkAhead(n)) {
            return NONE;
        }
        return thought.countHeld(town);
    }

    public int over() {
        beginThought();
        for (int n = 0; n <= OVER_MOST; n++) {
            if (thought.isOver()) {
                return n;
            }
            thought.passDay(texts);
        }
        return NONE;
    }

    public int stop(int n) {
        if (n < 0 || n > THOUGHT_MOST) {
            return NONE;
        }
        int set = 0;
        for (int tries = 0; tries < STOP_TRIES && set != NONE; tries++) {
            if (endsWithout(set, n)) {
                return set;
            }
            set = setBehind(set, world.peopleCount);
        }
        return NONE;
    }

    public int reach(int person) {
        return world.hasPerson(person) ? world.reachedFrom(person, PEOPLE_MOST) : NONE;
    }

    public int sources(int set, int d) {
        if (set <= 0 || set >= 1 << world.peopleCount || d < 1 || d > STEPS_MOST) {
            return NONE;
        }
        int found = 0;
        for (int p = 0; p < world.peopleCount; p++) {
            int others = set & ~(1 << p);
            if ((world.reachedFrom(p, d) & others) == others) {
                found |= 1 << p;
            }
        }
        return found;
    }

    public int circle(int person) {
        if (!world.hasPerson(person)) {
            return NONE;
        }
        for (int steps = 1; steps <= PEOPLE_MOST; steps++) {
            if (hasBit(world.reachedFrom(person, steps), person)) {
                return steps;
            }
        }
        return NONE;
    }

    public int pick(int version) {
        if (version == NONE) {
            picks.count = 0;
        } else if (world.versions.has(version) && picks.canTake(version)) {
            picks.take(version);
        } else {
            return NONE;
        }
        return picks.count;
    }

    public int join() {
        return picks.leastJoin(world.versions);
    }

    public int forebear(int a, int b) {
        if (!world.versions.has(a) || !world.versions.has(b)) {
            return NONE;
        }
        return world.versions.commonForebear(a, b);
    }

    public int lasts(int n) {
        return thinkAhead(n) ? thought.commonestCurse() : NONE;
    }

    public int knows(int k) {
        if (k < 0 || k > VERSIONS_MOST) {
            return NONE;
        }
        int found = 0;
        for (int p = 0; p < world.peopleCount; p++) {
            if (Long.bitCount(world.people[p].had) >= k) {
                found |= 1 << p;
            }
        }
        return found;
    }

    public boolean undo() {
        if (beforeCount == 0) {
            return false;
        }
        beforeCount--;
        beforeNext = (beforeNext + UNDO_MOST - 1) % UNDO_MOST;
        world.copyFrom(before[beforeNext]);
        picks.keepBelow(world.versions.count);
        return true;
    }

    public boolean image(boolean taken) {
        if (taken) {
            imageWorld.copyFrom(world);
            imageTexts.copyFrom(texts);
            imagePicks.copyFrom(picks);
            imageTaken = true;
            return true;
        }
        if (!imageTaken) {
            return false;
        }
        world.copyFrom(imageWorld);
        texts.copyFrom(imageTexts);
        picks.copyFrom(imagePicks);
        forgetBefore();
        return true;
    }

    public int look(int what) {
        if (what >= RULES_IN_LOOK && what < RULES_IN_LOOK + RULE_COUNT) {
            return world.rules[what - RULES_IN_LOOK];
        }
        switch (what) {
            case 0: return world.peopleCount;
            case 1: return world.versions.count;
            case 2: return world.day;
            case 3: return world.way.count;
            case 4: return world.countHeld(NONE);
            case 5: return world.book.count;
            case 6: return world.state;
            case 7: return world.freed;
            case 8: return world.cursed;
            case 9: return world.lost;
            case 10: return texts.hands.lines;
            case 11: return texts.luck.lines;
            case 12: return texts.post.lines;
            case 13: return beforeCount;
            case 14: return picks.count;
            default: return NONE;
        }
    }

    private static boolean canBeTold(int what, int v) {
        return what >= 0 && what < LEAST_TOLD.length && v >= LEAST_TOLD[what] && v <= MOST_TOLD[what];
    }

    private static boolean hasBit(int set, int i) {
        return (set >> i & 1) == 1;
    }

    private static int heldTo(int value, int most) {
        return Math.max(0, Math.min(most, value));
    }

    private void keepBefore() {
        before[beforeNext].copyFrom(world);
        beforeNext = (beforeNext + 1) % UNDO_MOST;
        beforeCount = Math.min(UNDO_MOST, beforeCount + 1);
    }

    private void forgetBefore() {
        beforeCount = 0;
    }

    private void beginThought() {
        thought.copyFrom(world);
        thought.rules[BLOTS] = 0;
    }

    /** Puts into thought what is behind n days; false if n can't be. */
    private boolean thinkAhead(int n) {
        if (n < 0 || n > THOUGHT_MOST) {
            return false;
        }
        beginThought();
        for (int i = 0; i < n; i++) {
            thought.passDay(texts);
        }
        return true;
    }

    /** Whether all is over by n days with these people stopped; sets with one less must have been asked before. */
    private boolean endsWithout(int set, int n) {
        // To stop one who writes nothing anyhow changes nothing, so such a set fails as the one without him did.
        for (int p = 0; p < world.peopleCount; p++) {
            if (hasBit(set, p)) {
                int wrote = writers[writerSlot(set ^ (1 << p))];
                if (!hasBit(wrote, p)) {
                    writers[writerSlot(set)] = wrote;
                    return false;
                }
            }
        }
        beginThought();
        for (int p = 0; p < world.peopleCount; p++) {
            if (hasBit(set, p)) {
                thought.people[p].told[STOPPED] = 1;
            }
        }
        for (int i = 0; i < n && !thought.isOver(); i++) {
            thought.passDay(texts);
        }
        writers[writerSlot(set)] = thought.wrote;
        return thought.isOver();
    }

    /** Where it is kept who wrote while a set was stopped; sets of three, which nobody asks for, share a place. */
    private static int writerSlot(int set) {
        if (Integer.bitCount(set) >= STOP_MOST) {
            return WRITER_SLOTS - 1;
        }
        int slot = 0;
        for (int p = 0; p < PEOPLE_MOST; p++) {
            if (hasBit(set, p)) {
                slot = slot * (PEOPLE_MOST + 1) + p + 1;
            }
        }
        return slot;
    }

    /** The next set of as many, else the least of one more; NONE behind the sets of three. */
    private static int setBehind(int set, int people) {
        if (set != 0) {
            int lowest = set & -set;
            int carried = set + lowest;
            int next = carried | ((set ^ carried) / lowest >>> 2);
            if (next < 1 << people) {
                return next;
            }
        }
        int size = Integer.bitCount(set) + 1;
        return size > STOP_MOST || size > people ? NONE : (1 << size) - 1;
    }

    /** Letters in an order: those in the hands of one, or those on the way. */
    private static final class Letters {
        final int[] version;
        final int[] from;
        final int[] to;
        // When it is due if it is in hands, when it can come if it is on the way.
        final int[] day;
        final int[] left;
        int count;

        Letters(int most) {
            version = new int[most];
            from = new int[most];
            to = new int[most];
            day = new int[most];
            left = new int[most];
        }

        boolean isFull() {
            return count >= version.length;
        }

        boolean has(int i) {
            return i >= 0 && i < count;
        }

        void add(int itsVersion, int sender, int receiver, int itsDay, int copies) {
            if (isFull()) {
                return;
            }
            version[count] = itsVersion;
            from[count] = sender;
            to[count] = receiver;
            day[count] = itsDay;
            left[count] = copies;
            count++;
        }

        void remove(int i) {
            if (!has(i)) {
                return;
            }
            count--;
            System.arraycopy(version, i + 1, version, i, count - i);
            System.arraycopy(from, i + 1, from, i, count - i);
            System.arraycopy(to, i + 1, to, i, count - i);
            System.arraycopy(day, i + 1, day, i, count - i);
            System.arraycopy(left, i + 1, left, i, count - i);
        }

        void copyFrom(Letters other) {
            System.arraycopy(other.version, 0, version, 0, other.count);
            System.arraycopy(other.from, 0, from, 0, other.count);
            System.arraycopy(other.to, 0, to, 0, other.count);
            System.arraycopy(other.day, 0, day, 0, other.count);
            System.arraycopy(other.left, 0, left, 0, other.count);
            count = other.count;
        }
    }

    private static final class Person {
        final int[] told = new int[STOPPED + 1];
        final int[] row = new int[ROW_MOST];
        final Letters letters = new Letters(HELD_MOST);
        int rowCount;
        int next;
        int sent;
        long had;

        /** The place may have been another's before an image was gone back to, so nothing of him may stay. */
        void begin(int town, int kind, int lazy) {
            told[TOWN] = town;
            told[KIND] = kind;
            told[LAZY] = lazy;
            told[PAPER] = 0;
            told[COIN] = 0;
            told[STOPPED] = 0;
            letters.count = 0;
            rowCount = 0;
            next = 0;
            sent = 0;
            had = 0;
        }

        boolean isWriting() {
            return told[KIND] != CONVENT && told[STOPPED] == 0 && rowCount > 0;
        }

        boolean passesOn() {
            return told[KIND] == PLAIN && told[STOPPED] == 0;
        }

        int rowSet() {
            int set = 0;
            for (int i = 0; i < rowCount; i++) {
                set |= 1 << row[i];
            }
            return set;
        }

        void copyFrom(Person other) {
            System.arraycopy(other.told, 0, told, 0, told.length);
            System.arraycopy(other.row, 0, row, 0, row.length);
            letters.copyFrom(other.letters);
            rowCount = other.rowCount;
            next = other.next;
            sent = other.sent;
            had = other.had;
        }
    }

    /** A version came of one with a lesser number, or of none. */
    private static final class Versions {
        final int[] curse = new int[VERSIONS_MOST];
        final int[] marks = new int[VERSIONS_MOST];
        final int[] parent = new int[VERSIONS_MOST];
        final int[] writer = new int[VERSIONS_MOST];
        int count;

        boolean has(int version) {
            return version >= 0 && version < count;
        }

        boolean isFull() {
            return count >= VERSIONS_MOST;
        }

        int add(int itsCurse, int itsMarks, int itsParent, int itsWriter) {
            if (isFull()) {
                return NONE;
            }
            curse[count] = itsCurse;
            marks[count] = itsMarks;
            parent[count] = itsParent;
            writer[count] = itsWriter;
            count++;
            return count - 1;
        }

        int countChildren(int version) {
            long family = 1L << version;
            for (int v = version + 1; v < count; v++) {
                if (parent[v] != NONE && (family >> parent[v] & 1) == 1) {
                    family |= 1L << v;
                }
            }
            return Long.bitCount(family) - 1;
        }

        /** The younger of the two can't be it, so it makes way for the one that it came of. */
        int commonForebear(int a, int b) {
            int left = a;
            int right = b;
            for (int steps = 0; steps < 2 * VERSIONS_MOST && left != right; steps++) {
                if (left > right) {
                    left = parent[left];
                } else {
                    right = parent[right];
                }
            }
            return left;
        }

        void copyFrom(Versions other) {
            System.arraycopy(other.curse, 0, curse, 0, other.count);
            System.arraycopy(other.marks, 0, marks, 0, other.count);
            System.arraycopy(other.parent, 0, parent, 0, other.count);
            System.arraycopy(other.writer, 0, writer, 0, other.count);
            count = other.count;
        }
    }

    private static final class Book {
        final int[] day = new int[BOOK_MOST];
        final int[] version = new int[BOOK_MOST];
        final int[] from = new int[BOOK_MOST];
        final int[] to = new int[BOOK_MOST];
        final int[] what = new int[BOOK_MOST];
        int count;

        void add(int today, int itsVersion, int sender, int receiver, int itsEnd) {
            if (count >= BOOK_MOST) {
                return;
            }
            day[count] = today;
            version[count] = itsVersion;
            from[count] = sender;
            to[count] = receiver;
            what[count] = itsEnd;
            count++;
        }

        void copyFrom(Book other) {
            System.arraycopy(other.day, 0, day, 0, other.count);
            System.arraycopy(other.version, 0, version, 0, other.count);
            System.arraycopy(other.from, 0, from, 0, other.count);
            System.arraycopy(other.to, 0, to, 0, other.count);
            System.arraycopy(other.what, 0, what, 0, other.count);
            count = other.count;
        }
    }

    /** All that is but the texts and what is picked: what an undo goes back to, and what thought goes on from. */
    private static final class World {
        final Person[] people = new Person[PEOPLE_MOST];
        int peopleCount;
        final Versions versions = new Versions();
        final Letters way = new Letters(WAY_MOST);
        final Book book = new Book();
        final int[] rules = new int[RULE_COUNT];
        int state;
        int day;
        int freed;
        int cursed;
        int lost;
        // Who wrote a copy since this was copied: thought asks for it.
        int wrote;
        // What the names in a law stand for, in their order among the words.
        final int[] named = new int[NAMES_OF_HANDS];

        World() {
            for (int p = 0; p < PEOPLE_MOST; p++) {
                people[p] = new Person();
            }
            rules[COPIES] = 9;
            rules[TERM] = 9;
        }

        boolean hasPerson(int p) {
            return p >= 0 && p < peopleCount;
        }

        boolean hasLetter(int p, int i) {
            return hasPerson(p) && people[p].letters.has(i);
        }

        int addPerson(int town, int kind, int lazy) {
            if (peopleCount >= PEOPLE_MOST) {
                return NONE;
            }
            people[peopleCount].begin(town, kind, lazy);
            peopleCount++;
            return peopleCount - 1;
        }

        void give(int p, int version, int from) {
            Person who = people[p];
            who.letters.add(version, from, p, day + rules[TERM], rules[COPIES]);
            who.had |= 1L << version;
        }

        /** A DAY; how many letters came into hands. */
        int passDay(Texts texts) {
            int came = rules[FROST] == 0 ? bringPost() : 0;
            for (int p = 0; p < peopleCount; p++) {
                if (people[p].isWriting()) {
                    writeOut(p, texts);
                }
            }
            for (int p = 0; p < peopleCount; p++) {
                if (people[p].told[KIND] != CONVENT) {
                    curseDue(p, texts.luck);
                }
            }
            day++;
            return came;
        }

        private int bringPost() {
            int came = 0;
            int there = way.count;
            int staying = 0;
            for (int n = 0; n < there; n++) {
                if (way.day[staying] > day) {
                    staying++;
                } else {
                    if (receive(staying) == HELD) {
                        came++;
                    }
                    way.remove(staying);
                }
            }
            return came;
        }

        private int receive(int i) {
            int from = way.from[i];
            int to = way.to[i];
            Person who = people[to];
            int what = HELD;
            if (who.told[KIND] == BURNER) {
                what = BURNT;
            } else if (hasBit(who.sent, from)) {
                what = DONE_WITH;
            } else if (who.letters.isFull()) {
                what = TOO_MANY;
                lost++;
            } else {
                give(to, way.version[i], from);
            }
            book.add(day, way.version[i], from, to, what);
            return what;
        }

        private void writeOut(int p, Texts texts) {
            Person who = people[p];
            Letters letters = who.letters;
            int there = letters.count;
            int staying = 0;
            for (int n = 0; n < there; n++) {
                int most = Math.min(letters.left[staying], who.told[PAPER]);
                int copies = Math.min(copiesToWrite(p, staying, texts.hands), most);
                for (int c = 0; c < copies; c++) {
                    sendCopy(p, staying, texts.post);
                }
                if (letters.left[staying] == 0) {
                    letters.remove(staying);
                    freed++;
                } else {
                    staying++;
                }
            }
        }

        private void sendCopy(int p, int i, Post post) {
            Person who = people[p];
            int version = versionOfCopy(who.letters.version[i], p);
            int to = who.row[who.next];
            if (way.isFull()) {
                lost++;
            } else {
                int under = post.daysBetween(who.told[TOWN], people[to].told[TOWN]);
                way.add(version, p, to, day + under, 0);
            }
            who.sent |= 1 << to;
            who.next = who.next + 1 < who.rowCount ? who.next + 1 : 0;
            who.told[PAPER]--;
            who.letters.left[i]--;
            wrote |= 1 << p;
        }

        private int versionOfCopy(int version, int writer) {
            if (rules[BLOTS] == 0 || draw(1000) >= rules[BLOTS]) {
                return version;
            }
            int mark = draw(MARK_COUNT);
            if (versions.isFull()) {
                return version;
            }
            int curse = versions.curse[version];
            if (mark == 0) {
                curse = Math.max(0, curse - 1);
            }
            return versions.add(curse, versions.marks[version] ^ (1 << mark), version, writer);
        }

        private int draw(int m) {
            state = state * 1664525 + 1013904223;
            return (state >>> 8) % m;
        }

        private void curseDue(int p, Law luck) {
            Person who = people[p];
            Letters letters = who.letters;
            int there = letters.count;
            int staying = 0;
            for (int n = 0; n < there; n++) {
                if (letters.day[staying] > day) {
                    staying++;
                } else {
                    who.told[COIN] = Math.max(0, who.told[COIN] - illLuck(p, staying, luck));
                    letters.remove(staying);
                    cursed++;
                }
            }
        }

        int copiesToWrite(int p, int i, Law hands) {
            nameAll(p, i);
            return heldTo(hands.valueFor(named, 1), WRITE_MOST);
        }

        int illLuck(int p, int i, Law luck) {
            nameAll(p, i);
            Letters letters = people[p].letters;
            return heldTo(luck.valueFor(named, versions.curse[letters.version[i]] * letters.left[i]), ILL_MOST);
        }

        private void nameAll(int p, int i) {
            Person who = people[p];
            int version = who.letters.version[i];
            named[0] = versions.curse[version];
            named[1] = who.letters.left[i];
            named[2] = who.told[KIND];
            named[3] = who.told[LAZY];
            named[4] = who.told[COIN];
            named[5] = p;
            named[6] = day;
            named[7] = who.letters.day[i] - day;
            named[8] = who.told[PAPER];
            named[9] = who.letters.count;
            named[10] = Integer.bitCount(versions.marks[version]);
        }

        int leastStamps(int p, int i, Post post) {
            Person who = people[p];
            int unused = who.rowSet();
            int left = who.letters.left[i];
            if (Integer.bitCount(unused) < left) {
                return NONE;
            }
            int sum = 0;
            for (int days = 1; days <= POST_MOST; days++) {
                for (int to = 0; to < peopleCount; to++) {
                    boolean costsThat = post.daysBetween(who.told[TOWN], people[to].told[TOWN]) == days;
                    if (left > 0 && costsThat && hasBit(unused, to)) {
                        sum += days;
                        left--;
                    }
                }
            }
            return sum;
        }

        int countHeld(int town) {
            int sum = 0;
            for (int p = 0; p < peopleCount; p++) {
                if (town == NONE || people[p].told[TOWN] == town) {
                    sum += people[p].letters.count;
                }
            }
            return sum;
        }

        boolean isOver() {
            for (int p = 0; p < peopleCount; p++) {
                if (people[p].told[KIND] != CONVENT && people[p].letters.count > 0) {
                    return false;
                }
            }
            return way.count == 0;
        }

        int countLettersOf(int version) {
            int sum = 0;
            for (int i = 0; i < way.count; i++) {
                if (way.version[i] == version) {
                    sum++;
                }
            }
            for (int p = 0; p < peopleCount; p++) {
                Letters letters = people[p].letters;
                for (int i = 0; i < letters.count; i++) {
                    if (letters.version[i] == version) {
                        sum++;
                    }
                }
            }
            return sum;
        }

        boolean isKnown(int version) {
            for (int p = 0; p < peopleCount; p++) {
                if ((people[p].had >> version & 1) == 1) {
                    return true;
                }
            }
            return false;
        }

        int commonestCurse() {
            int best = NONE;
            int most = 0;
            for (int curse = 0; curse <= CURSE_MOST; curse++) {
                int sum = countHeldWith(curse);
                if (sum > most) {
                    best = curse;
                    most = sum;
                }
            }
            return best;
        }

        private int countHeldWith(int curse) {
            int sum = 0;
            for (int p = 0; p < peopleCount; p++) {
                Letters letters = people[p].letters;
                for (int i = 0; i < letters.count; i++) {
                    if (versions.curse[letters.version[i]] == curse) {
                        sum++;
                    }
                }
            }
            return sum;
        }

        /** To whom one comes from a person by rows, by one step at least and so many at most. */
        int reachedFrom(int p, int steps) {
            int reached = people[p].rowSet();
            int latest = reached;
            for (int step = 1; step < steps && latest != 0; step++) {
                int behind = 0;
                for (int q = 0; q < peopleCount; q++) {
                    if (hasBit(latest, q) && people[q].passesOn()) {
                        behind |= people[q].rowSet();
                    }
                }
                latest = behind & ~reached;
                reached |= behind;
            }
            return reached;
        }

        void copyFrom(World other) {
            for (int p = 0; p < other.peopleCount; p++) {
                people[p].copyFrom(other.people[p]);
            }
            peopleCount = other.peopleCount;
            versions.copyFrom(other.versions);
            way.copyFrom(other.way);
            book.copyFrom(other.book);
            System.arraycopy(other.rules, 0, rules, 0, RULE_COUNT);
            state = other.state;
            day = other.day;
            freed = other.freed;
            cursed = other.cursed;
            lost = other.lost;
            wrote = 0;
        }
    }

    /** A law as steps in the order in which they are done, each line's value ahead of its condition. */
    private static final class Law {
        final int[] steps = new int[TAPE_MOST];
        final int[] valueAt = new int[LINES_MOST];
        final int[] testAt = new int[LINES_MOST];
        final int[] endAt = new int[LINES_MOST];
        final int[] stack = new int[STACK_SIZE];
        int count;
        int lines;

        void clear() {
            count = 0;
            lines = 0;
        }

        void add(int step) {
            if (count < TAPE_MOST) {
                steps[count] = step;
                count++;
            }
        }

        void addLine(int value, int test) {
            if (lines < LINES_MOST) {
                valueAt[lines] = value;
                testAt[lines] = test;
                endAt[lines] = count;
                lines++;
            }
        }

        int valueFor(int[] named, int otherwise) {
            for (int line = 0; line < lines; line++) {
                if (testAt[line] == endAt[line] || run(testAt[line], endAt[line], named) != 0) {
                    return run(valueAt[line], testAt[line], named);
                }
            }
            return otherwise;
        }

        private int run(int begin, int end, int[] named) {
            int top = 0;
            for (int at = begin; at < end; at++) {
                int step = steps[at];
                if (step < OPERATION_STEP && top < STACK_SIZE) {
                    stack[top] = step < NAME_STEP ? step : named[step - NAME_STEP];
                    top++;
                } else if (step == OPERATION_STEP + NOT && top > 0) {
                    stack[top - 1] = 1 - stack[top - 1];
                } else if (top > 1) {
                    top--;
                    stack[top - 1] = joined(step - OPERATION_STEP, stack[top - 1], stack[top]);
                }
            }
            return stack[0];
        }

        private static int joined(int operation, int a, int b) {
            switch (operation) {
                case '+': return a + b;
                case '-': return a - b;
                case '*': return a * b;
                case '/': return b == 0 ? 0 : a / b;
                case '<': return a < b ? 1 : 0;
                case '=': return a == b ? 1 : 0;
                case '>': return a > b ? 1 : 0;
                case AND: return a & b;
                default: return a | b;
            }
        }

        void copyFrom(Law other) {
            System.arraycopy(other.steps, 0, steps, 0, other.count);
            System.arraycopy(other.valueAt, 0, valueAt, 0, other.lines);
            System.arraycopy(other.testAt, 0, testAt, 0, other.lines);
            System.arraycopy(other.endAt, 0, endAt, 0, other.lines);
            count = other.count;
            lines = other.lines;
        }
    }

    private static final class Post {
        final int[] days = new int[TOWN_COUNT * TOWN_COUNT];
        int lines;

        Post() {
            Arrays.fill(days, 1);
        }

        void clear() {
            Arrays.fill(days, 1);
            lines = 0;
        }

        void add(int a, int b, int under) {
            days[a * TOWN_COUNT + b] = under;
            days[b * TOWN_COUNT + a] = under;
            lines++;
        }

        int daysBetween(int a, int b) {
            return days[a * TOWN_COUNT + b];
        }

        void copyFrom(Post other) {
            System.arraycopy(other.days, 0, days, 0, days.length);
            lines = other.lines;
        }
    }

    private static final class Texts {
        final Law hands = new Law();
        final Law luck = new Law();
        final Post post = new Post();

        void copyFrom(Texts other) {
            hands.copyFrom(other.hands);
            luck.copyFrom(other.luck);
            post.copyFrom(other.post);
        }
    }

    private static final class Picks {
        final int[] version = new int[PICKED_MOST];
        int count;

        boolean canTake(int one) {
            for (int i = 0; i < count; i++) {
                if (version[i] == one) {
                    return false;
                }
            }
            return count < PICKED_MOST;
        }

        void take(int one) {
            if (count < PICKED_MOST) {
                version[count] = one;
                count++;
            }
        }

        void keepBelow(int bound) {
            int kept = 0;
            for (int i = 0; i < count; i++) {
                if (version[i] < bound) {
                    version[kept] = version[i];
                    kept++;
                }
            }
            count = kept;
        }

        /** Grows a tree from the first by whichever is nearest to it, which makes the least tree. */
        int leastJoin(Versions versions) {
            int sum = 0;
            int joined = 1;
            for (int round = 1; round < count; round++) {
                int nearest = 0;
                int least = MARK_COUNT + 1;
                for (int i = 0; i < count; i++) {
                    int apart = hasBit(joined, i) ? MARK_COUNT + 1 : nearness(versions, joined, i);
                    if (apart < least) {
                        nearest = i;
                        least = apart;
                    }
                }
                joined |= 1 << nearest;
                sum += least;
            }
            return sum;
        }

        private int nearness(Versions versions, int joined, int i) {
            int least = MARK_COUNT;
            for (int j = 0; j < count; j++) {
                if (hasBit(joined, j)) {
                    int unlike = versions.marks[version[i]] ^ versions.marks[version[j]];
                    least = Math.min(least, Integer.bitCount(unlike));
                }
            }
            return least;
        }

        void copyFrom(Picks other) {
            System.arraycopy(other.version, 0, version, 0, other.count);
            count = other.count;
        }
    }

    /** The tape and the reading of a text from it: the first fault ends it, so its place is the least. */
    private static final class Reader {
        final int[] tape = new int[TAPE_MOST];
        int size;
        int fault;
        int faultPlace = NONE;

        // One token more than signs: the end.
        private final int[] kinds = new int[TAPE_MOST + 1];
        private final int[] values = new int[TAPE_MOST + 1];
        private final int[] places = new int[TAPE_MOST + 1];
        private int count;
        private int at;

        // What is read stands here until it is known to be without a fault.
        private final Law law = new Law();
        private final Post roads = new Post();
        private int nameCount;

        int append(int a, int b, int c, int d, int e) {
            if (size + 20 > TAPE_MOST) {
                return NONE;
            }
            appendNumber(a);
            appendNumber(b);
            appendNumber(c);
            appendNumber(d);
            appendNumber(e);
            return size;
        }

        private void appendNumber(int number) {
            for (int shift = 24; shift >= 0; shift -= 8) {
                tape[size] = number >>> shift & 255;
                size++;
            }
        }

        void begin() {
            fault = 0;
            faultPlace = NONE;
            at = 0;
            findTokens();
        }

        private void findTokens() {
            count = 0;
            int place = 0;
            for (int n = 0; n < size && place < size; n++) {
                int end = endOfToken(place);
                if (tape[place] != ' ' && tape[place] != 10) {
                    kinds[count] = kindOfToken(place, end);
                    values[count] = kinds[count] == NUMBER ? valueOfDigits(place, end) : 0;
                    places[count] = place;
                    count++;
                }
                place = end;
            }
            kinds[count] = AT_END;
            values[count] = 0;
            places[count] = size;
            count++;
        }

        private int endOfToken(int place) {
            int end = place + 1;
            if (isLetter(tape[place])) {
                while (end < size && isLetter(tape[end])) {
                    end++;
                }
            } else if (isDigit(tape[place])) {
                while (end < size && isDigit(tape[end])) {
                    end++;
                }
            }
            return end;
        }

        private int kindOfToken(int place, int end) {
            if (isLetter(tape[place])) {
                return wordBetween(place, end);
            }
            if (isDigit(tape[place])) {
                return end - place <= DIGITS_MOST ? NUMBER : NO_TOKEN;
            }
            return tape[place];
        }

        private int wordBetween(int place, int end) {
            int word = FIRST_WORD;
            int begin = 0;
            for (int i = 0; i < WORDS.length(); i++) {
                if (WORDS.charAt(i) == ' ') {
                    if (i - begin == end - place && isSpelled(begin, place, end)) {
                        return word;
                    }
                    word++;
                    begin = i + 1;
                }
            }
            return NO_TOKEN;
        }

        private boolean isSpelled(int begin, int place, int end) {
            for (int i = 0; place + i < end; i++) {
                if (tape[place + i] != WORDS.charAt(begin + i)) {
                    return false;
                }
            }
            return true;
        }

        private int valueOfDigits(int place, int end) {
            int value = 0;
            for (int i = place; i < end; i++) {
                value = value * 10 + tape[i] - '0';
            }
            return value;
        }

        private static boolean isLetter(int sign) {
            return (sign >= 'a' && sign <= 'z') || (sign >= 'A' && sign <= 'Z');
        }

        private static boolean isDigit(int sign) {
            return sign >= '0' && sign <= '9';
        }

        /** How many lines the law has then, NONE with a fault. */
        int readLaw(Law told, int keyword, int names) {
            law.clear();
            nameCount = names;
            for (int n = 0; n < count && fault == 0 && kinds[at] != AT_END; n++) {
                if (kinds[at] == keyword && law.lines == LINES_MOST) {
                    fail(TOO_MUCH);
                }
                take(keyword);
                int value = law.count;
                readSum();
                int test = law.count;
                if (takes(WHEN)) {
                    readChoice(0);
                }
                take(';');
                law.addLine(value, test);
            }
            if (fault != 0) {
                return NONE;
            }
            told.copyFrom(law);
            return told.lines;
        }

        /** How many lines the post has then, NONE with a fault. */
        int readPost(Post told) {
            roads.clear();
            for (int n = 0; n < count && fault == 0 && kinds[at] != AT_END; n++) {
                take(POST);
                int a = takeNumber(0, TOWN_COUNT - 1);
                take(TO);
                int b = takeNumber(0, TOWN_COUNT - 1);
                take(IN);
                int under = takeNumber(1, POST_MOST);
                take(';');
                roads.add(a, b, under);
            }
            if (fault != 0) {
                return NONE;
            }
            told.copyFrom(roads);
            return told.lines;
        }

        /** B of the document: A {or A}, and A = C {and C}. */
        private void readChoice(int open) {
            readTest(open);
            boolean either = false;
            for (int n = 0; n < count && fault == 0 && (kinds[at] == OR || kinds[at] == AND); n++) {
                if (takes(AND)) {
                    readTest(open);
                    addOperation(AND);
                } else if (takes(OR)) {
                    if (either) {
                        addOperation(OR);
                    }
                    either = true;
                    readTest(open);
                }
            }
            if (either) {
                addOperation(OR);
            }
        }

        /** C of the document; so many brackets and nots are open. */
        private void readTest(int open) {
            boolean opens = fault == 0 && (kinds[at] == NOT || kinds[at] == '(');
            if (opens && open >= OPEN_MOST) {
                fail(TOO_MUCH);
            } else if (takes(NOT)) {
                readTest(open + 1);
                addOperation(NOT);
            } else if (takes('(')) {
                readChoice(open + 1);
                take(')');
            } else {
                readSum();
                int sign = kinds[at];
                if (!takes('<') && !takes('=') && !takes('>')) {
                    fail(CANNOT_STAND);
                }
                readSum();
                addOperation(sign);
            }
        }

        /** E of the document. */
        private void readSum() {
            readProduct();
            for (int n = 0; n < count && fault == 0 && (kinds[at] == '+' || kinds[at] == '-'); n++) {
                int sign = kinds[at];
                at++;
                readProduct();
                addOperation(sign);
            }
        }

        /** T of the document. */
        private void readProduct() {
            readUnit();
            for (int n = 0; n < count && fault == 0 && (kinds[at] == '*' || kinds[at] == '/'); n++) {
                if (takes('*')) {
                    readUnit();
                    addOperation('*');
                } else if (takes('/')) {
                    law.add(takeNumber(1, NUMBER_MOST));
                    addOperation('/');
                }
            }
        }

        /** U of the document. */
        private void readUnit() {
            int name = kinds[at] - FIRST_NAME;
            if (fault != 0) {
                return;
            }
            if (kinds[at] == NUMBER) {
                law.add(values[at]);
                at++;
            } else if (name >= 0 && name < nameCount) {
                law.add(NAME_STEP + name);
                at++;
            } else {
                fail(CANNOT_STAND);
            }
        }

        private void addOperation(int kind) {
            law.add(OPERATION_STEP + kind);
        }

        private boolean takes(int kind) {
            if (fault != 0 || kinds[at] != kind) {
                return false;
            }
            at++;
            return true;
        }

        private void take(int kind) {
            if (!takes(kind)) {
                fail(CANNOT_STAND);
            }
        }

        private int takeNumber(int least, int most) {
            int value = values[at];
            if (!takes(NUMBER)) {
                fail(CANNOT_STAND);
                return least;
            }
            if (value < least || value > most) {
                at--;
                fail(BAD_NUMBER);
                return least;
            }
            return value;
        }

        private void fail(int what) {
            if (fault == 0) {
                fault = what;
                faultPlace = places[at];
            }
        }
    }
}
