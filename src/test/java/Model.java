import java.util.ArrayList;
import java.util.List;
import java.util.TreeSet;
import java.util.function.ToIntFunction;

/** The document a second time, as plainly as the whole Java library allows, to hold NineCopies against. */
final class Model {
    private static final int NONE = -1;

    private static final class Letter {
        int version, from, to, day, left;

        Letter(int version, int from, int to, int day, int left) {
            this.version = version;
            this.from = from;
            this.to = to;
            this.day = day;
            this.left = left;
        }

        Letter copy() {
            return new Letter(version, from, to, day, left);
        }
    }

    private static final class Person {
        int town, kind, lazy, paper, coin, stopped, next;
        List<Integer> row = new ArrayList<>();
        TreeSet<Integer> had = new TreeSet<>();
        TreeSet<Integer> sent = new TreeSet<>();
        List<Letter> letters = new ArrayList<>();

        Person copy() {
            Person p = new Person();
            p.town = town;
            p.kind = kind;
            p.lazy = lazy;
            p.paper = paper;
            p.coin = coin;
            p.stopped = stopped;
            p.next = next;
            p.row.addAll(row);
            p.had.addAll(had);
            p.sent.addAll(sent);
            for (Letter l : letters) {
                p.letters.add(l.copy());
            }
            return p;
        }
    }

    private record Version(int curse, int marks, int parent, int by) { }

    private record Line(int day, int version, int from, int to, int what) { }

    private static final class Data {
        List<Person> people = new ArrayList<>();
        List<Version> versions = new ArrayList<>();
        List<Letter> way = new ArrayList<>();
        List<Line> book = new ArrayList<>();
        int state, day, freed, cursed, lost, copies = 9, term = 9, blots, frost;

        Data copy() {
            Data d = new Data();
            for (Person p : people) {
                d.people.add(p.copy());
            }
            for (Letter l : way) {
                d.way.add(l.copy());
            }
            d.versions.addAll(versions);
            d.book.addAll(book);
            d.state = state;
            d.day = day;
            d.freed = freed;
            d.cursed = cursed;
            d.lost = lost;
            d.copies = copies;
            d.term = term;
            d.blots = blots;
            d.frost = frost;
            return d;
        }
    }

    /** What a law asks of. */
    private record Asked(Data d, int person, Letter letter) {
        int of(String name) {
            Person p = d.people.get(person);
            return switch (name) {
                case "curse" -> d.versions.get(letter.version).curse();
                case "left" -> letter.left;
                case "kind" -> p.kind;
                case "lazy" -> p.lazy;
                case "coin" -> p.coin;
                case "person" -> person;
                case "day" -> d.day;
                case "days" -> letter.day - d.day;
                case "paper" -> p.paper;
                case "held" -> p.letters.size();
                case "marks" -> Integer.bitCount(d.versions.get(letter.version).marks());
                default -> throw new IllegalStateException(name);
            };
        }
    }

    private record Rule(ToIntFunction<Asked> value, ToIntFunction<Asked> test) { }

    private static final class Fault extends RuntimeException {
        final int what, place;

        Fault(int what, int place) {
            this.what = what;
            this.place = place;
        }
    }

    /** Reads straight from the signs, a token at a time. */
    private static final class Text {
        final String signs;
        final List<String> names;
        int at;
        int open;

        Text(String signs, List<String> names) {
            this.signs = signs;
            this.names = names;
        }

        void skip() {
            while (at < signs.length() && (signs.charAt(at) == ' ' || signs.charAt(at) == '\n')) {
                at++;
            }
        }

        static boolean letter(char c) {
            return c >= 'a' && c <= 'z' || c >= 'A' && c <= 'Z';
        }

        static boolean digit(char c) {
            return c >= '0' && c <= '9';
        }

        String peek() {
            skip();
            if (at == signs.length()) {
                return "";
            }
            int end = at + 1;
            char first = signs.charAt(at);
            while (end < signs.length() && (letter(first) && letter(signs.charAt(end))
                    || digit(first) && digit(signs.charAt(end)))) {
                end++;
            }
            return signs.substring(at, end);
        }

        boolean peeks(String token) {
            return peek().equals(token);
        }

        void take(String token) {
            if (!peeks(token)) {
                throw new Fault(1, at);
            }
            at += token.length();
        }

        boolean takes(String token) {
            if (peeks(token)) {
                at += token.length();
                return true;
            }
            return false;
        }

        boolean atNumber() {
            String token = peek();
            return !token.isEmpty() && digit(token.charAt(0)) && token.length() <= 4;
        }

        int number(int least, int most) {
            if (!atNumber()) {
                throw new Fault(1, at);
            }
            int value = Integer.parseInt(peek());
            if (value < least || value > most) {
                throw new Fault(2, at);
            }
            at += peek().length();
            return value;
        }

        List<Rule> law(String keyword) {
            List<Rule> rules = new ArrayList<>();
            while (!peeks("")) {
                if (peeks(keyword) && rules.size() == 16) {
                    throw new Fault(3, at);
                }
                take(keyword);
                ToIntFunction<Asked> value = sum();
                ToIntFunction<Asked> test = a -> 1;
                if (takes("when")) {
                    test = either();
                }
                take(";");
                rules.add(new Rule(value, test));
            }
            return rules;
        }

        ToIntFunction<Asked> either() {
            ToIntFunction<Asked> one = both();
            while (takes("or")) {
                ToIntFunction<Asked> a = one;
                ToIntFunction<Asked> b = both();
                one = x -> a.applyAsInt(x) == 1 || b.applyAsInt(x) == 1 ? 1 : 0;
            }
            return one;
        }

        ToIntFunction<Asked> both() {
            ToIntFunction<Asked> one = test();
            while (takes("and")) {
                ToIntFunction<Asked> a = one;
                ToIntFunction<Asked> b = test();
                one = x -> a.applyAsInt(x) == 1 && b.applyAsInt(x) == 1 ? 1 : 0;
            }
            return one;
        }

        ToIntFunction<Asked> test() {
            if (peeks("not") || peeks("(")) {
                if (open == 8) {
                    throw new Fault(3, at);
                }
                open++;
                ToIntFunction<Asked> all;
                if (takes("not")) {
                    ToIntFunction<Asked> one = test();
                    all = x -> 1 - one.applyAsInt(x);
                } else {
                    take("(");
                    all = either();
                    take(")");
                }
                open--;
                return all;
            }
            ToIntFunction<Asked> a = sum();
            if (takes("<")) {
                ToIntFunction<Asked> b = sum();
                return x -> a.applyAsInt(x) < b.applyAsInt(x) ? 1 : 0;
            }
            if (takes(">")) {
                ToIntFunction<Asked> b = sum();
                return x -> a.applyAsInt(x) > b.applyAsInt(x) ? 1 : 0;
            }
            take("=");
            ToIntFunction<Asked> b = sum();
            return x -> a.applyAsInt(x) == b.applyAsInt(x) ? 1 : 0;
        }

        ToIntFunction<Asked> sum() {
            ToIntFunction<Asked> one = product();
            while (peeks("+") || peeks("-")) {
                int sign = takes("+") ? 1 : -1;
                if (sign < 0) {
                    take("-");
                }
                ToIntFunction<Asked> a = one;
                ToIntFunction<Asked> b = product();
                one = x -> a.applyAsInt(x) + sign * b.applyAsInt(x);
            }
            return one;
        }

        ToIntFunction<Asked> product() {
            ToIntFunction<Asked> one = unit();
            while (peeks("*") || peeks("/")) {
                ToIntFunction<Asked> a = one;
                if (takes("*")) {
                    ToIntFunction<Asked> b = unit();
                    one = x -> a.applyAsInt(x) * b.applyAsInt(x);
                } else {
                    take("/");
                    int b = number(1, 9999);
                    one = x -> a.applyAsInt(x) / b;
                }
            }
            return one;
        }

        ToIntFunction<Asked> unit() {
            if (atNumber()) {
                int value = number(0, 9999);
                return x -> value;
            }
            String name = peek();
            if (!names.contains(name)) {
                throw new Fault(1, at);
            }
            take(name);
            return x -> x.of(name);
        }

        List<int[]> post() {
            List<int[]> lines = new ArrayList<>();
            while (!peeks("")) {
                int[] line = new int[3];
                take("post");
                line[0] = number(0, 5);
                take("to");
                line[1] = number(0, 5);
                take("in");
                line[2] = number(1, 20);
                take(";");
                lines.add(line);
            }
            return lines;
        }
    }

    private static final class Texts {
        List<Rule> hands = List.of();
        List<Rule> luck = List.of();
        List<int[]> post = List.of();

        Texts copy() {
            Texts t = new Texts();
            t.hands = hands;
            t.luck = luck;
            t.post = post;
            return t;
        }
    }

    private Data d = new Data();
    private Texts t = new Texts();
    private List<Integer> picked = new ArrayList<>();
    private final List<Data> past = new ArrayList<>();
    private Data imageData;
    private Texts imageTexts;
    private List<Integer> imagePicked;
    private final StringBuilder tape = new StringBuilder();
    private int fault;
    private int place = NONE;

    private boolean in(int v, int least, int most) {
        return v >= least && v <= most;
    }

    private boolean there(int person) {
        return in(person, 0, d.people.size() - 1);
    }

    int state(int v) {
        int was = d.state;
        d.state = v;
        past.clear();
        return was;
    }

    int person(int town, int kind, int lazy) {
        if (!in(town, 0, 5) || !in(kind, 0, 2) || !in(lazy, 0, 99) || d.people.size() == 16) {
            return NONE;
        }
        Person p = new Person();
        p.town = town;
        p.kind = kind;
        p.lazy = lazy;
        d.people.add(p);
        past.clear();
        return d.people.size() - 1;
    }

    boolean set(int what, int person, int v) {
        if (!in(what, 0, 9) || what < 6 && !there(person)) {
            return false;
        }
        Person p = what < 6 ? d.people.get(person) : null;
        switch (what) {
            case 0: if (!in(v, 0, 5)) { return false; } p.town = v; break;
            case 1: if (!in(v, 0, 2)) { return false; } p.kind = v; break;
            case 2: if (!in(v, 0, 99)) { return false; } p.lazy = v; break;
            case 3: if (!in(v, 0, 99)) { return false; } p.paper = v; break;
            case 4: if (!in(v, 0, 9999)) { return false; } p.coin = v; break;
            case 5: if (!in(v, 0, 1)) { return false; } p.stopped = v; break;
            case 6: if (!in(v, 1, 9)) { return false; } d.copies = v; break;
            case 7: if (!in(v, 1, 20)) { return false; } d.term = v; break;
            case 8: if (!in(v, 0, 1000)) { return false; } d.blots = v; break;
            default: if (!in(v, 0, 1)) { return false; } d.frost = v; break;
        }
        past.clear();
        return true;
    }

    int address(int person, int to) {
        if (!there(person)) {
            return NONE;
        }
        Person p = d.people.get(person);
        if (to == NONE) {
            p.row.clear();
            p.next = 0;
        } else {
            if (!there(to) || to == person || p.row.size() == 9) {
                return NONE;
            }
            p.row.add(to);
        }
        past.clear();
        return p.row.size();
    }

    int version(int curse, int marks) {
        if (!in(curse, 0, 9) || !in(marks, 0, 1023) || d.versions.size() == 40) {
            return NONE;
        }
        d.versions.add(new Version(curse, marks, NONE, NONE));
        past.clear();
        return d.versions.size() - 1;
    }

    private void keep() {
        past.add(d.copy());
        if (past.size() > 6) {
            past.remove(0);
        }
    }

    boolean hand(int person, int version) {
        if (!there(person) || !in(version, 0, d.versions.size() - 1)) {
            return false;
        }
        Person p = d.people.get(person);
        if (p.kind == 1 || p.letters.size() == 3) {
            return false;
        }
        keep();
        p.letters.add(new Letter(version, NONE, person, d.day + d.term, d.copies));
        p.had.add(version);
        return true;
    }

    boolean burn(int person, int i) {
        if (!there(person) || !in(i, 0, d.people.get(person).letters.size() - 1)) {
            return false;
        }
        keep();
        d.people.get(person).letters.remove(i);
        return true;
    }

    int feed(int a, int b, int c, int dd, int e) {
        if (tape.length() > 380) {
            return NONE;
        }
        for (int n : new int[] {a, b, c, dd, e}) {
            tape.append((char) (n >>> 24)).append((char) (n >> 16 & 255)).append((char) (n >> 8 & 255));
            tape.append((char) (n & 255));
        }
        return tape.length();
    }

    boolean end(int n) {
        if (!in(n, 0, tape.length())) {
            return false;
        }
        tape.setLength(n);
        return true;
    }

    int text(int k) {
        String signs = tape.toString();
        tape.setLength(0);
        fault = 0;
        place = NONE;
        List<String> luck = List.of("curse", "left", "kind", "lazy", "coin", "person", "day");
        List<String> hands = new ArrayList<>(luck);
        hands.addAll(List.of("days", "paper", "held", "marks"));
        try {
            switch (k) {
                case 0: t.hands = new Text(signs, hands).law("write"); return t.hands.size();
                case 1: t.luck = new Text(signs, luck).law("ill"); return t.luck.size();
                case 2: t.post = new Text(signs, List.of()).post(); return t.post.size();
                default: return NONE;
            }
        } catch (Fault f) {
            fault = f.what;
            place = f.place;
            return NONE;
        }
    }

    int fault(int what) {
        return what == 0 ? fault : what == 1 ? place : NONE;
    }

    private int ruled(List<Rule> law, Data now, int person, Letter l, int otherwise) {
        Asked asked = new Asked(now, person, l);
        for (Rule rule : law) {
            if (rule.test().applyAsInt(asked) == 1) {
                return rule.value().applyAsInt(asked);
            }
        }
        return otherwise;
    }

    private int writes(Data now, int person, Letter l) {
        return Math.max(0, Math.min(9, ruled(t.hands, now, person, l, 1)));
    }

    private int ill(Data now, int person, Letter l) {
        int none = now.versions.get(l.version).curse() * l.left;
        return Math.max(0, Math.min(999, ruled(t.luck, now, person, l, none)));
    }

    private int between(int a, int b) {
        int days = 1;
        for (int[] line : t.post) {
            if (line[0] == a && line[1] == b || line[0] == b && line[1] == a) {
                days = line[2];
            }
        }
        return days;
    }

    private static int draw(Data now, int m) {
        now.state = now.state * 1664525 + 1013904223;
        return (int) ((now.state & 0xffffffffL) / 256 % m);
    }

    private int day(Data now) {
        int came = now.frost == 0 ? arrive(now) : 0;
        for (int p = 0; p < now.people.size(); p++) {
            write(now, p);
        }
        for (int i = 0; i < now.people.size(); i++) {
            Person p = now.people.get(i);
            if (p.kind != 2) {
                for (Letter l : List.copyOf(p.letters)) {
                    if (l.day <= now.day) {
                        p.coin = Math.max(0, p.coin - ill(now, i, l));
                        p.letters.remove(l);
                        now.cursed++;
                    }
                }
            }
        }
        now.day++;
        return came;
    }

    private static int arrive(Data now) {
        int came = 0;
        List<Letter> staying = new ArrayList<>();
        for (Letter l : now.way) {
            if (l.day > now.day) {
                staying.add(l);
                continue;
            }
            Person p = now.people.get(l.to);
            int what = p.kind == 1 ? 1 : p.sent.contains(l.from) ? 2 : p.letters.size() == 3 ? 3 : 0;
            if (what == 3) {
                now.lost++;
            }
            if (what == 0) {
                came++;
                p.letters.add(new Letter(l.version, l.from, l.to, now.day + now.term, now.copies));
                p.had.add(l.version);
            }
            if (now.book.size() < 200) {
                now.book.add(new Line(now.day, l.version, l.from, l.to, what));
            }
        }
        now.way = staying;
        return came;
    }

    private void write(Data now, int person) {
        Person p = now.people.get(person);
        if (p.kind == 2 || p.stopped == 1 || p.row.isEmpty()) {
            return;
        }
        for (Letter l : List.copyOf(p.letters)) {
            int copies = Math.min(writes(now, person, l), Math.min(l.left, p.paper));
            for (int c = 0; c < copies; c++) {
                int version = l.version;
                if (now.blots > 0 && draw(now, 1000) < now.blots) {
                    int mark = draw(now, 10);
                    if (now.versions.size() < 40) {
                        Version of = now.versions.get(version);
                        int curse = mark == 0 ? Math.max(0, of.curse() - 1) : of.curse();
                        now.versions.add(new Version(curse, of.marks() ^ 1 << mark, version, person));
                        version = now.versions.size() - 1;
                    }
                }
                int to = p.row.get(p.next);
                if (now.way.size() == 60) {
                    now.lost++;
                } else {
                    int under = between(p.town, now.people.get(to).town);
                    now.way.add(new Letter(version, person, to, now.day + under, 0));
                }
                p.sent.add(to);
                p.next = (p.next + 1) % p.row.size();
                p.paper--;
                l.left--;
            }
            if (l.left == 0) {
                p.letters.remove(l);
                now.freed++;
            }
        }
    }

    int days(int n) {
        if (!in(n, 1, 60) || d.day + n > 9999) {
            return NONE;
        }
        int came = 0;
        for (int i = 0; i < n; i++) {
            keep();
            came += day(d);
        }
        return came;
    }

    private static int set(Iterable<Integer> all) {
        int set = 0;
        for (int one : all) {
            set |= 1 << one;
        }
        return set;
    }

    int of(int person, int what) {
        if (!there(person)) {
            return NONE;
        }
        Person p = d.people.get(person);
        int[] all = {p.town, p.kind, p.lazy, p.paper, p.coin, p.stopped, p.letters.size(), p.row.size(), p.next,
            p.had.size(), set(p.sent)};
        if (in(what, 0, 10)) {
            return all[what];
        }
        return what >= 20 && what - 20 < p.row.size() ? p.row.get(what - 20) : NONE;
    }

    int letter(int person, int i, int what) {
        if (!there(person) || !in(i, 0, d.people.get(person).letters.size() - 1)) {
            return NONE - 1;
        }
        Letter l = d.people.get(person).letters.get(i);
        switch (what) {
            case 0: return l.version;
            case 1: return l.from;
            case 2: return l.day;
            case 3: return l.left;
            case 4: return writes(d, person, l);
            case 5: return ill(d, person, l);
            case 6: return stamps(d.people.get(person), l.left);
            default: return NONE - 1;
        }
    }

    private int stamps(Person p, int left) {
        int row = set(p.row);
        int least = NONE;
        for (int some = row; some > 0; some = some - 1 & row) {
            if (Integer.bitCount(some) == left) {
                int sum = 0;
                for (int to = 0; to < 16; to++) {
                    if ((some >> to & 1) == 1) {
                        sum += between(p.town, d.people.get(to).town);
                    }
                }
                least = least == NONE ? sum : Math.min(least, sum);
            }
        }
        return least;
    }

    int onWay(int i, int what) {
        if (!in(i, 0, d.way.size() - 1) || !in(what, 0, 3)) {
            return NONE;
        }
        Letter l = d.way.get(i);
        return new int[] {l.version, l.from, l.to, l.day}[what];
    }

    private List<Integer> forebears(int version) {
        List<Integer> all = new ArrayList<>();
        for (int v = version; v != NONE; v = d.versions.get(v).parent()) {
            all.add(v);
        }
        return all;
    }

    int kind(int version, int what) {
        if (!in(version, 0, d.versions.size() - 1) || !in(what, 0, 6)) {
            return NONE - 1;
        }
        Version v = d.versions.get(version);
        int children = 0;
        for (int c = 0; c < d.versions.size(); c++) {
            children += c != version && forebears(c).contains(version) ? 1 : 0;
        }
        List<Letter> letters = new ArrayList<>(d.way);
        int had = 0;
        for (Person p : d.people) {
            letters.addAll(p.letters);
            had |= p.had.contains(version) ? 1 : 0;
        }
        int count = (int) letters.stream().filter(l -> l.version == version).count();
        return new int[] {v.curse(), v.marks(), v.parent(), v.by(), children, count, had}[what];
    }

    int post(int a, int b) {
        return in(a, 0, 5) && in(b, 0, 5) ? between(a, b) : NONE;
    }

    int book(int i, int what) {
        if (!in(i, 0, d.book.size() - 1) || !in(what, 0, 4)) {
            return NONE - 1;
        }
        Line l = d.book.get(i);
        return new int[] {l.day(), l.version(), l.from(), l.to(), l.what()}[what];
    }

    private Data behind(int n) {
        Data now = d.copy();
        now.blots = 0;
        for (int i = 0; i < n; i++) {
            day(now);
        }
        return now;
    }

    int many(int n, int town) {
        if (!in(n, 0, 99) || !in(town, -1, 5)) {
            return NONE;
        }
        return behind(n).people.stream().filter(p -> town == NONE || p.town == town)
                .mapToInt(p -> p.letters.size()).sum();
    }

    private static boolean isOver(Data now) {
        return now.way.isEmpty() && now.people.stream().allMatch(p -> p.kind == 2 || p.letters.isEmpty());
    }

    private int overOf(Data now, int most) {
        now.blots = 0;
        for (int n = 0; n <= most; n++) {
            if (isOver(now)) {
                return n;
            }
            day(now);
        }
        return NONE;
    }

    int over() {
        return overOf(d.copy(), 200);
    }

    int stop(int n) {
        if (!in(n, 0, 99)) {
            return NONE;
        }
        for (int size = 0; size <= 3; size++) {
            for (int set = 0; set < 1 << d.people.size(); set++) {
                if (Integer.bitCount(set) == size) {
                    Data now = d.copy();
                    for (int p = 0; p < now.people.size(); p++) {
                        now.people.get(p).stopped |= set >> p & 1;
                    }
                    if (overOf(now, n) != NONE) {
                        return set;
                    }
                }
            }
        }
        return NONE;
    }

    /** The fewest steps from each to each by growing ways one step at a time; 99 for none. */
    private int[][] steps() {
        int n = d.people.size();
        int[][] least = new int[n][n];
        for (int p = 0; p < n; p++) {
            java.util.Arrays.fill(least[p], 99);
            for (int to : d.people.get(p).row) {
                least[p][to] = 1;
            }
        }
        for (int by = 0; by < n; by++) {
            if (d.people.get(by).kind != 0 || d.people.get(by).stopped == 1) {
                continue;
            }
            for (int a = 0; a < n; a++) {
                for (int b = 0; b < n; b++) {
                    least[a][b] = Math.min(least[a][b], least[a][by] + least[by][b]);
                }
            }
        }
        return least;
    }

    int reach(int person) {
        if (!there(person)) {
            return NONE;
        }
        int set = 0;
        for (int to = 0; to < d.people.size(); to++) {
            set |= steps()[person][to] < 99 ? 1 << to : 0;
        }
        return set;
    }

    int sources(int set, int most) {
        if (!in(set, 1, (1 << d.people.size()) - 1) || !in(most, 1, 15)) {
            return NONE;
        }
        int[][] steps = steps();
        int found = 0;
        for (int p = 0; p < d.people.size(); p++) {
            boolean all = true;
            for (int to = 0; to < d.people.size(); to++) {
                all &= (set >> to & 1) == 0 || to == p || steps[p][to] <= most;
            }
            found |= all ? 1 << p : 0;
        }
        return found;
    }

    int circle(int person) {
        return !there(person) || steps()[person][person] >= 99 ? NONE : steps()[person][person];
    }

    int pick(int version) {
        if (version == NONE) {
            picked.clear();
            return 0;
        }
        if (!in(version, 0, d.versions.size() - 1) || picked.contains(version) || picked.size() == 8) {
            return NONE;
        }
        picked.add(version);
        return picked.size();
    }

    /** By the shortest edges first, which is another way to the least tree than the class goes. */
    int join() {
        List<int[]> edges = new ArrayList<>();
        for (int a = 0; a < picked.size(); a++) {
            for (int b = 0; b < a; b++) {
                int unlike = d.versions.get(picked.get(a)).marks() ^ d.versions.get(picked.get(b)).marks();
                edges.add(new int[] {Integer.bitCount(unlike), a, b});
            }
        }
        edges.sort((one, other) -> one[0] - other[0]);
        int[] part = {0, 1, 2, 3, 4, 5, 6, 7};
        int sum = 0;
        for (int[] edge : edges) {
            int from = part[edge[1]];
            int to = part[edge[2]];
            if (from != to) {
                sum += edge[0];
                for (int i = 0; i < 8; i++) {
                    part[i] = part[i] == from ? to : part[i];
                }
            }
        }
        return sum;
    }

    int forebear(int a, int b) {
        if (!in(a, 0, d.versions.size() - 1) || !in(b, 0, d.versions.size() - 1)) {
            return NONE;
        }
        List<Integer> both = forebears(a);
        both.retainAll(forebears(b));
        return both.stream().mapToInt(v -> v).max().orElse(NONE);
    }

    int lasts(int n) {
        if (!in(n, 0, 99)) {
            return NONE;
        }
        Data now = behind(n);
        int[] counts = new int[10];
        for (Person p : now.people) {
            for (Letter l : p.letters) {
                counts[now.versions.get(l.version).curse()]++;
            }
        }
        int best = 0;
        for (int c = 1; c < 10; c++) {
            best = counts[c] > counts[best] ? c : best;
        }
        return counts[best] == 0 ? NONE : best;
    }

    int knows(int k) {
        if (!in(k, 0, 40)) {
            return NONE;
        }
        int set = 0;
        for (int p = 0; p < d.people.size(); p++) {
            set |= d.people.get(p).had.size() >= k ? 1 << p : 0;
        }
        return set;
    }

    boolean undo() {
        if (past.isEmpty()) {
            return false;
        }
        d = past.remove(past.size() - 1);
        picked.removeIf(v -> v >= d.versions.size());
        return true;
    }

    boolean image(boolean taken) {
        if (taken) {
            imageData = d.copy();
            imageTexts = t.copy();
            imagePicked = List.copyOf(picked);
            return true;
        }
        if (imageData == null) {
            return false;
        }
        d = imageData.copy();
        t = imageTexts.copy();
        picked = new ArrayList<>(imagePicked);
        past.clear();
        return true;
    }

    int look(int what) {
        int held = d.people.stream().mapToInt(p -> p.letters.size()).sum();
        int[] low = {d.people.size(), d.versions.size(), d.day, d.way.size(), held, d.book.size(), d.state, d.freed,
            d.cursed, d.lost, t.hands.size(), t.luck.size(), t.post.size(), past.size(), picked.size()};
        int[] high = {d.copies, d.term, d.blots, d.frost};
        return in(what, 0, 14) ? low[what] : in(what, 20, 23) ? high[what - 20] : NONE;
    }
}
