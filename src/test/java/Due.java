/** Prints each answer that is not the one that is due, and ends a test that had one with exit code 1. */
final class Due {
    private static final int MOST_PRINTED = 60;
    private static int asked = 0;
    private static int wrong = 0;

    private Due() {
    }

    static void is(String what, long got, long want) {
        is(what, Long.toString(got), Long.toString(want));
    }

    static void is(String what, String got, String want) {
        asked++;
        if (got.equals(want)) {
            return;
        }
        wrong++;
        if (wrong <= MOST_PRINTED) {
            System.out.println(what + " answered " + shown(got) + ", due is " + shown(want));
        }
    }

    static void holds(String what, boolean is) {
        is(what, is ? "yes" : "no", "yes");
    }

    static void end() {
        System.out.println(wrong == 0 ? "all " + asked + " answers are as due"
            : wrong + " of " + asked + " answers are not as due");
        if (wrong != 0) {
            System.exit(1);
        }
    }

    private static String shown(String text) {
        StringBuilder s = new StringBuilder();
        for (char c : text.toCharArray()) {
            if (c < ' ' || c > '~') {
                s.append('{').append((int) c).append('}');
            } else {
                s.append(c);
            }
        }
        return s.toString();
    }
}
