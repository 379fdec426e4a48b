/** Counts the answers that are not due, and ends a test by them. */
final class Check {
    static final int NONE = -1, UNKNOWN = -2, OUTSIDE = -3, NOT = -4, FULL = -5;

    private int wrong = 0;

    void due(String call, int got, int want) {
        if (got != want) {
            wrong++;
            System.out.println(call + " answered " + got + ", due is " + want);
        }
    }

    /** The first fault of the text on a new object, and that kirk() takes it only if there is none. */
    void faultDue(String text, int want) {
        SermonScale x = new SermonScale();
        put(x, text);
        due("fault() of '" + text + "'", x.fault(), want);
        due("letters of '" + text + "' behind fault()", x.count(14), text.length());
        int done = x.kirk();
        due("kirk() of '" + text + "' is refused", done == NOT ? 1 : 0, want == NONE ? 0 : 1);
        due("letters of '" + text + "' behind kirk()", x.count(14), want == NONE ? 0 : text.length());
    }

    void end() {
        if (wrong > 0) {
            System.exit(1);
        }
    }

    static void put(SermonScale x, String text) {
        for (int i = 0; i < text.length(); i++) {
            x.write(text.charAt(i));
        }
    }

    static int tell(SermonScale x, String text) {
        put(x, text);
        return x.kirk();
    }

    static SermonScale told(String... texts) {
        SermonScale x = new SermonScale();
        for (String text : texts) {
            tell(x, text);
        }
        return x;
    }

    /** All that can be asked without a change, one number behind the other, but how many can be undone. */
    static String allOf(SermonScale x) {
        StringBuilder all = new StringBuilder();
        for (int what = 0; what <= 14; what++) {
            if (what != 13) {
                all.append(x.count(what)).append(' ');
            }
        }
        int parts = x.count(0);
        int souls = x.count(1);
        for (int part = 0; part < parts; part++) {
            for (int what = 0; what <= 4; what++) {
                all.append(x.part(part, what)).append(' ');
            }
            all.append(x.weights(part)).append(' ');
        }
        for (int soul = 0; soul < souls; soul++) {
            all.append(x.sins(soul)).append(' ');
        }
        all.append(x.thumbs()).append(' ').append(x.fault());
        return all.toString();
    }
}
