import java.util.Random;

/** Random texts, most of them without a fault, some spoilt at one place. */
final class TextMaker {
    private static final String[] NAMES = {"curse", "left", "kind", "lazy", "coin", "person", "day", "days", "paper",
        "held", "marks"};
    private static final String[] ODD = {"write", "ill", "when", "or", "and", "not", "post", "to", "in", "0", "21",
        "12345", "(", ")", "<", "=", ">", "+", "-", "*", "/", ";", ".", "x", "Write", "\t", "\u00e9", "/0", "16", "20"};

    private final Random random;
    private final StringBuilder made = new StringBuilder();
    private final int names;

    private TextMaker(Random random, int names) {
        this.random = random;
        this.names = names;
    }

    static String make(Random random, int k) {
        TextMaker maker = new TextMaker(random, k == 1 ? 7 : 11);
        int lines = random.nextInt(12) == 0 ? 18 : random.nextInt(6);
        for (int i = 0; i < lines; i++) {
            if (k == 2) {
                maker.postLine();
            } else {
                maker.lawLine(k == 1 ? "ill" : "write", lines == 18);
            }
        }
        if (random.nextInt(3) == 0) {
            maker.spoil();
        }
        return maker.made.toString();
    }

    private void put(String token) {
        boolean sticks = made.length() == 0 || !Character.isLetterOrDigit(made.charAt(made.length() - 1))
                || !Character.isLetterOrDigit(token.charAt(0));
        if (!sticks || random.nextInt(3) == 0) {
            made.append(random.nextInt(8) == 0 ? "\n" : " ");
        }
        made.append(token);
    }

    private void spoil() {
        int at = made.length() == 0 ? 0 : random.nextInt(made.length());
        switch (random.nextInt(3)) {
            case 0:
                made.insert(at, ODD[random.nextInt(ODD.length)]);
                break;
            case 1:
                made.setLength(at);
                break;
            default:
                if (made.length() > 0) {
                    made.deleteCharAt(at);
                }
                break;
        }
    }

    private void postLine() {
        put("post");
        put(String.valueOf(random.nextInt(random.nextInt(30) == 0 ? 8 : 6)));
        put("to");
        put(String.valueOf(random.nextInt(random.nextInt(30) == 0 ? 8 : 6)));
        put("in");
        put(String.valueOf(random.nextInt(random.nextInt(20) == 0 ? 23 : 6)));
        put(";");
    }

    private void lawLine(String keyword, boolean small) {
        put(keyword);
        sum(small ? 1 : 3);
        if (!small && random.nextInt(3) != 0) {
            put("when");
            either(random.nextInt(15) == 0 ? 9 : 3);
        }
        put(";");
    }

    private void either(int depth) {
        both(depth);
        while (random.nextInt(4) == 0) {
            put("or");
            both(depth);
        }
    }

    private void both(int depth) {
        test(depth);
        while (random.nextInt(4) == 0) {
            put("and");
            test(depth);
        }
    }

    private void test(int depth) {
        int which = random.nextInt(depth > 5 ? 3 : 6);
        if (which == 0 && depth > 0) {
            put("not");
            test(depth - 1);
        } else if (which == 1 && depth > 0) {
            put("(");
            either(depth - 1);
            put(")");
        } else {
            sum(2);
            put(new String[] {"<", "=", ">"}[random.nextInt(3)]);
            sum(2);
        }
    }

    private void sum(int parts) {
        product();
        for (int i = 1; i < parts; i++) {
            if (random.nextInt(3) == 0) {
                put(random.nextBoolean() ? "+" : "-");
                product();
            }
        }
    }

    private void product() {
        unit();
        while (random.nextInt(5) == 0) {
            if (random.nextBoolean()) {
                put("*");
                unit();
            } else {
                put("/");
                put(String.valueOf(random.nextInt(random.nextInt(20) == 0 ? 3 : 5) + (random.nextInt(20) == 0 ? 0 : 1)));
            }
        }
    }

    private void unit() {
        if (random.nextInt(3) == 0) {
            put(String.valueOf(random.nextInt(random.nextInt(6) == 0 ? 9999 : 12)));
        } else {
            put(NAMES[random.nextInt(names)]);
        }
    }
}
