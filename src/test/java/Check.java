/** What the tests share: counting of wrong answers and the feeding of texts. */
final class Check {
    private static int asked = 0;
    private static int wrong = 0;
    private static int sentences = 0;
    private static String sentence = "";

    /** The sentence of the document of which the answers asked for from here on are the test. */
    static void sentence(String words) {
        sentences++;
        sentence = "[" + words + "] ";
    }

    static void same(String what, long got, long want) {
        asked++;
        if (got != want) {
            wrong++;
            System.out.println(sentence + what + " answered " + got + ", due is " + want);
        }
    }

    static void yes(String what, boolean got) {
        same(what, got ? 1 : 0, 1);
    }

    static void no(String what, boolean got) {
        same(what, got ? 1 : 0, 0);
    }

    static void all(String what, int[] got, int[] want) {
        same(what + ", how many", got.length, want.length);
        for (int i = 0; i < Math.min(got.length, want.length); i++) {
            same(what + ", number " + i, got[i], want[i]);
        }
    }

    /** Feeds a text of 400 signs at most and nothing else. */
    static void tape(NineCopies x, String text) {
        x.end(0);
        for (int at = 0; at < text.length(); at += 20) {
            int[] five = new int[5];
            for (int i = 0; i < 20; i++) {
                int sign = at + i < text.length() ? text.charAt(at + i) : ' ';
                five[i / 4] = five[i / 4] << 8 | sign;
            }
            x.feed(five[0], five[1], five[2], five[3], five[4]);
        }
        x.end(text.length());
    }

    static int tell(NineCopies x, int k, String text) {
        tape(x, text);
        return x.text(k);
    }

    static void lines(NineCopies x, int k, String text, int lines) {
        same("lines of '" + text + "'", tell(x, k, text), lines);
        same("fault of '" + text + "'", x.fault(0), 0);
        same("place of no fault of '" + text + "'", x.fault(1), NineCopies.NONE);
    }

    static void faulty(NineCopies x, int k, String text, int fault, int place) {
        same("lines of '" + text + "'", tell(x, k, text), NineCopies.NONE);
        same("fault of '" + text + "'", x.fault(0), fault);
        same("place of the fault of '" + text + "'", x.fault(1), place);
    }

    static void finish(String name) {
        String of = sentences == 0 ? "" : " of " + sentences + " sentences";
        System.out.println(name + ": " + (asked - wrong) + " answers" + of + " as due, " + wrong + " not");
        if (wrong != 0) {
            System.exit(1);
        }
    }
}
