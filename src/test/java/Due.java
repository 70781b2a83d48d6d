/** Compares answers with those that are due, and feeds texts. */
final class Due {
    private static int wrong = 0;
    private static int looked = 0;

    private Due() {
    }

    static void is(String call, long got, long want) {
        looked++;
        if (got != want) {
            wrong++;
            if (wrong <= 40) {
                System.out.println(call + " answered " + got + ", due is " + want);
            }
        }
    }

    static void is(String call, boolean got, boolean want) {
        is(call, got ? 1 : 0, want ? 1 : 0);
    }

    /** Puts a text on the tape, with blanks behind it up to a multiple of twenty bytes. */
    static void feed(LoafStreet x, String text) {
        StringBuilder padded = new StringBuilder(text);
        while (padded.length() % 20 != 0) {
            padded.append(' ');
        }
        for (int i = 0; i < padded.length(); i += 20) {
            x.feed(word(padded, i), word(padded, i + 4), word(padded, i + 8), word(padded, i + 12), word(padded, i + 16));
        }
    }

    static int word(CharSequence text, int at) {
        return text.charAt(at) << 24 | text.charAt(at + 1) << 16 | text.charAt(at + 2) << 8 | text.charAt(at + 3);
    }

    static int tell(LoafStreet x, String text) {
        feed(x, text);
        return x.street(text.length());
    }

    static LoafStreet told(String text) {
        LoafStreet x = new LoafStreet();
        is("street of '" + text + "' has no fault", tell(x, text) > 0, true);
        return x;
    }

    static void end(String name) {
        System.out.println(name + ": " + looked + " answers, " + wrong + " not as due");
        if (wrong != 0) {
            System.exit(1);
        }
    }
}
