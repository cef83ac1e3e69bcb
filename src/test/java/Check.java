/** What the tests share: counting of wrong answers and the feeding of texts. */
final class Check {
    private static int asked = 0;
    private static int wrong = 0;

    static void same(String what, long got, long want) {
        asked++;
        if (got != want) {
            wrong++;
            System.out.println(what + " answered " + got + ", due is " + want);
        }
    }

    static void yes(String what, boolean got) {
        same(what, got ? 1 : 0, 1);
    }

    static void no(String what, boolean got) {
        same(what, got ? 1 : 0, 0);
    }

    /** Feeds a text of 400 signs at most and nothing else. */
    static void tape(NineCopies x, String text) {
        x.end(0);
        for (int at = 0; at < text.length(); at += 20) {
            int[] five = new int[5];
            for (int i = 0; i < 20; i++) {
                int sign = at + i < text.length() ? text.charAt(at + i) : ' ';
                five[i / 4] = five[i / 4] << 8 | sign;
            }
            x.feed(five[0], five[1], five[2], five[3], five[4]);
        }
        x.end(text.length());
    }

    static int tell(NineCopies x, int k, String text) {
        tape(x, text);
        return x.text(k);
    }

    static void lines(NineCopies x, int k, String text, int lines) {
        same("lines of '" + text + "'", tell(x, k, text), lines);
        same("fault of '" + text + "'", x.fault(0), 0);
        same("place of no fault of '" + text + "'", x.fault(1), NineCopies.NONE);
    }

    static void faulty(NineCopies x, int k, String text, int fault, int place) {
        same("lines of '" + text + "'", tell(x, k, text), NineCopies.NONE);
        same("fault of '" + text + "'", x.fault(0), fault);
        same("place of the fault of '" + text + "'", x.fault(1), place);
    }

    static void finish(String name) {
        System.out.println(name + ": " + (asked - wrong) + " answers as due, " + wrong + " not");
        if (wrong != 0) {
            System.exit(1);
        }
    }
}
