/** What the tests share: answers that are due, and texts typed whole. */
final class Check {
    private static int right = 0;
    private static int wrong = 0;

    private Check() {
    }

    static void due(String call, long got, long want) {
        if (got == want) {
            right++;
        } else {
            wrong++;
            System.out.println(call + " answered " + got + ", due is " + want);
        }
    }

    static void dueFraction(String call, long upper, long lower, long wantUpper, long wantLower) {
        due(call + " upper", upper, wantUpper);
        due(call + " lower", lower, wantLower);
    }

    static void type(FindersHide x, String text) {
        for (int from = 0; from < text.length(); from += 8) {
            int to = Math.min(text.length(), from + 8);
            long v = 0;
            for (int i = from; i < to; i++) {
                v = v << 8 | text.charAt(i);
            }
            x.type(v, to - from);
        }
    }

    /** An object that has read a text. */
    static FindersHide told(String text) {
        FindersHide x = new FindersHide();
        type(x, text);
        if (x.town() < 0) {
            wrong++;
            System.out.println("can't be read: " + text);
        }
        return x;
    }

    /** The text that tells PLACES, each so HARD. */
    static String places(int... hard) {
        StringBuilder b = new StringBuilder();
        for (int h : hard) {
            b.append("place ").append(h).append(';');
        }
        return b.toString();
    }

    /** What town() answers to a text. */
    static int read(String text) {
        FindersHide x = new FindersHide();
        type(x, text);
        return x.town();
    }

    static void finish(String test) {
        System.out.println(test + ": " + right + " answers as due, " + wrong + " not");
        if (wrong != 0 || right == 0) {
            System.exit(1);
        }
    }
}
