/**
 * "Refused, and nothing changes": in each state, each refusal is asked of one of two like objects, and behind it
 * both answer the same to all that can be asked, undone, gone back to and told.
 */
public final class RefusedTest {
    private static final Check C = new Check();
    private static final int MOST_CALLS = 512;
    private static final int LEAST = Integer.MIN_VALUE, MOST = Integer.MAX_VALUE;
    private static final int[] LESS = {-1, LEAST};

    private static final String EIGHT_AND_SIX = "'word 9 1;greek 7 2;quote 15 3;psalm 9 4;word 1 5;greek 2 6;quote 3 7;"
            + "psalm 4 8;soul 9;soul 40;soul 3;soul 1;soul 0;soul 7' kirk()=14 ";
    /** Each of these tells something of weights() or thumbs(), so that none could become other unseen. */
    private static final String NOTES = "seen(1,2,9) seen(3,9,25) seen(0,0,0) seen(4,1,7) seen(8,0,0) seen(255,0,27) "
            + "rain(3) heard(1,13,1) heard(1,10,0) heard(2,15,1) heard(0,7,0) heard(0,99,0) heard(4,12,1) "
            + "weights(0)=512 thumbs()=48 ";
    private static final String FULL_WEEK = EIGHT_AND_SIX + "sin(0,3) preach(2)=9943 keep(0) sunday() ballast(7) "
            + "preach(1) rain(8) keep(1) sin(1,4) sin(1,4) preach(7) " + NOTES + "count(5)=0 count(13)=8 ";

    public static void main(String[] args) {
        letters();
        fullWeek();
        levelWeek();
        newObject();
        lastSunday();
        C.end();
    }

    private static void letters() {
        String full = "'" + " ".repeat(153) + "thumb 7' count(14)=160 ";
        for (int letter : new int[] {LEAST, -1, 256, MOST}) {
            refused("", "write", letter, 0, 0, Check.OUTSIDE);
            refused(FULL_WEEK + "'thumb 7' ", "write", letter, 0, 0, Check.OUTSIDE);
            refused(full, "write", letter, 0, 0, Check.OUTSIDE);
        }
        for (int letter : new int[] {0, ' ', ';', '8', 255}) {
            refused(full, "write", letter, 0, 0, Check.FULL);
        }
        for (String text : new String[] {"", "thumb", "kirk;thumb 10", "word 1 1;", "soul 1;soul 2;psalm 1 1;beam 6"}) {
            refused(FULL_WEEK + "'" + text + "' ", "kirk", 0, 0, 0, Check.NOT);
        }
        refused(FULL_WEEK + "'thumb 1;word 1 1' ", "kirk", 0, 0, 0, Check.NOT);
        refused(FULL_WEEK + "'thumb 1;soul 1' ", "kirk", 0, 0, 0, Check.NOT);
    }

    private static void fullWeek() {
        String text = FULL_WEEK + "'soul' ";
        for (int part : new int[] {LEAST, -1, 8, MOST}) {
            for (String call : new String[] {"part", "as", "preach", "weights"}) {
                refused(text, call, part, 99, 0, Check.UNKNOWN);
            }
        }
        for (int soul : new int[] {LEAST, -1, 6, MOST}) {
            refused(text, "sins", soul, 0, 0, Check.UNKNOWN);
            refused(text, "sin", soul, 1, 0, Check.UNKNOWN);
            refused(text, "sin", soul, 21, 0, Check.UNKNOWN);
        }
        for (int k : new int[] {LEAST, -1, 2, MOST}) {
            refused(text, "keep", k, 0, 0, Check.UNKNOWN);
            refused(text, "back", k, 0, 0, Check.UNKNOWN);
        }
        outsideOfSecond(text, "part", 5);
        outsideOfSecond(text, "as", 5);
        outsideOfSecond(text, "sin", 21);
        refused(text, "sin", 0, 0, 0, Check.OUTSIDE);
        outsideOfFirst(text, "ballast", 21);
        refused(text, "ballast", 0, 0, 0, Check.OUTSIDE);
        outsideOfFirst(text, "rain", 10);
        outsideOfFirst(text, "soonest", 2);
        outsideOfFirst(text, "never", 100);
        outsideOfFirst(text, "confessed", 11);
        outsideOfSecond(text, "confessed", 2);
        outsideOfFirst(text, "count", 15);
        refused(text, "as", 3, 1, 0, Check.NOT);
        refused(text, "as", 0, 2, 0, Check.NOT);
        refused(text, "preach", 1, 0, 0, Check.NOT);
        refused(text, "preach", 7, 0, 0, Check.NOT);
        notSeenOrHeard(text);
        notSeenOrHeard(EIGHT_AND_SIX + "seen(1,2,3) heard(1,9,1) ");
        refused(text, "seen", 1, 9, 255, Check.FULL);
        refused(text, "seen", 0, 0, 0, Check.FULL);
        refused(text, "heard", 1, 99, 1, Check.FULL);
        refused(text, "heard", 0, 0, 0, Check.FULL);
    }

    private static void notSeenOrHeard(String text) {
        for (int set : new int[] {LEAST, -1, 256, 257, 1 << 30, MOST}) {
            refused(text, "seen", set, 0, 0, Check.UNKNOWN);
            refused(text, "seen", set, 10, 256, Check.UNKNOWN);
            refused(text, "heard", set, 0, 1, Check.UNKNOWN);
            refused(text, "heard", set, 100, 2, Check.UNKNOWN);
        }
        for (int less : LESS) {
            refused(text, "seen", 1, less, 0, Check.OUTSIDE);
            refused(text, "seen", 1, 0, less, Check.OUTSIDE);
            refused(text, "heard", 1, less, 1, Check.OUTSIDE);
            refused(text, "heard", 1, 0, less, Check.OUTSIDE);
        }
        for (int more : new int[] {256, MOST}) {
            refused(text, "seen", 1, more, 0, Check.OUTSIDE);
            refused(text, "seen", 1, 0, more, Check.OUTSIDE);
            refused(text, "heard", 1, more, 1, Check.OUTSIDE);
            refused(text, "heard", 1, 0, more, Check.OUTSIDE);
        }
        refused(text, "seen", 1, 10, 0, Check.OUTSIDE);
        refused(text, "heard", 1, 100, 1, Check.OUTSIDE);
        refused(text, "heard", 1, 0, 2, Check.OUTSIDE);
    }

    private static void outsideOfFirst(String text, String call, int firstOutside) {
        for (int number : new int[] {LEAST, -1, firstOutside, MOST}) {
            refused(text, call, number, 0, 0, Check.OUTSIDE);
        }
    }

    private static void outsideOfSecond(String text, String call, int firstOutside) {
        for (int number : new int[] {LEAST, -1, firstOutside, MOST}) {
            refused(text, call, 0, number, 0, Check.OUTSIDE);
        }
    }

    private static void levelWeek() {
        String level = EIGHT_AND_SIX + NOTES + "'soul' sin(0,3) preach(0) ballast(20) ballast(20) "
                + "ballast(14) count(5)=1 ";
        refused(level, "preach", 0, 0, 0, Check.NOT);
        refused(level, "preach", 1, 0, 0, Check.NOT);
        refused(level, "preach", 7, 0, 0, Check.NOT);
        refused(level, "preach", 8, 0, 0, Check.UNKNOWN);
        refused(level, "preach", -1, 0, 0, Check.UNKNOWN);
        refused(level, "back", 0, 0, 0, Check.NOT);
        refused(level, "back", 1, 0, 0, Check.NOT);
        refused(level, "back", 2, 0, 0, Check.UNKNOWN);
        refused(level + "keep(1) ", "back", 0, 0, 0, Check.NOT);
        refused(level + "keep(0) erase() 'wet 1' kirk()=1 ", "back", 0, 0, 0, Check.NOT);
        refused(level + "keep(0) keep(1) back(0) ", "undo", 0, 0, 0, Check.NOT);
        refused(level + "keep(0) undo() undo() undo() undo() undo() undo()=0 keep(1) ", "undo", 0, 0, 0, Check.NOT);
    }

    private static void newObject() {
        for (String call : new String[] {"part", "sins", "as", "preach", "sin", "weights"}) {
            refused("", call, 0, 1, 0, Check.UNKNOWN);
        }
        refused("", "seen", 1, 0, 0, Check.UNKNOWN);
        refused("", "heard", 1, 0, 1, Check.UNKNOWN);
        refused("", "kirk", 0, 0, 0, Check.NOT);
        refused("", "undo", 0, 0, 0, Check.NOT);
        refused("", "back", 0, 0, 0, Check.NOT);
        refused("", "back", 1, 0, 0, Check.NOT);
    }

    /** Behind its 512th call nothing is promised of an object; SUNDAY 999 is not to be had ahead of it. */
    private static void lastSunday() {
        Twins twins = new Twins(EIGHT_AND_SIX + "sunday() ".repeat(999) + "sin(1,20) sin(5,9) preach(7) keep(0) "
                + NOTES + "keep(1) ballast(2) 'soul' count(2)=999 ");
        twins.refuse("sunday", 0, 0, 0, Check.FULL);
        twins.compare();
    }

    private static void refused(String text, String call, int a, int b, int c, int want) {
        Twins twins = new Twins(text);
        twins.refuse(call, a, b, c, want);
        twins.compare();
        C.due("as few calls as an object is used for", Math.max(twins.calls, MOST_CALLS), MOST_CALLS);
    }

    private static final class Twins {
        private final String text;
        private final SermonScale one = new SermonScale();
        private final SermonScale other = new SermonScale();
        private String told;
        private int calls;

        Twins(String text) {
            this.text = text;
            calls = Script.goOn(C, "a state to be refused in", one, text);
            Script.goOn(C, "a state to be refused in", other, text);
        }

        void refuse(String call, int a, int b, int c, int want) {
            calls++;
            told = call + "(" + a + ", " + b + ", " + c + ")";
            C.due(told + " behind " + text, Calls.answer(one, call, a, b, c), want);
        }

        /** First what changes nothing, then what is hidden: what can be undone, is kept, in THE TEXT, as told. */
        void compare() {
            askWeek();
            ask("fault", 0, 0);
            ask("thumbs", 0, 0);
            for (int part = 0; part < 8; part++) {
                ask("part", part, 1);
                ask("part", part, 2);
                ask("weights", part, 0);
            }
            for (int left = 7; left >= 0; left--) {
                ask("undo", 0, 0);
                askWeek();
            }
            ask("undo", 0, 0);
            for (int k = 0; k < 2; k++) {
                ask("back", k, 0);
                askWeek();
            }
            ask("kirk", 0, 0);
            ask("erase", 0, 0);
            for (char letter : "beam 1".toCharArray()) {
                ask("write", letter, 0);
            }
            ask("kirk", 0, 0);
            askWeek();
        }

        private void askWeek() {
            for (int what = 0; what <= 14; what++) {
                ask("count", what, 0);
            }
            for (int soul = 0; soul < 6; soul++) {
                ask("sins", soul, 0);
            }
        }

        private void ask(String call, int a, int b) {
            calls++;
            C.due(call + "(" + a + ", " + b + ") behind the refused " + told + " behind " + text,
                    Calls.answer(one, call, a, b, 0), Calls.answer(other, call, a, b, 0));
        }
    }
}
