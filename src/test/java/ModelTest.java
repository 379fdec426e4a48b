/** Long runs of calls of every kind, the same each time: the class answers as the plain model, and never throws. */
public final class ModelTest {
    private static final Check C = new Check();
    private static final int RUNS = 1500;
    private static final int MOST_CALLS = 512;
    private static final String[] CALLS = {"write", "erase", "fault", "kirk", "part", "sins", "as", "preach", "sin",
        "ballast", "rain", "sunday", "undo", "keep", "back", "stops", "soonest", "never", "seen", "heard", "forget",
        "weights", "thumbs", "confessed", "count"};
    private static final int[] WILD = {Integer.MIN_VALUE, -257, -1, 21, 31, 40, 99, 100, 160, 255, 256, 999, 1 << 30,
        Integer.MAX_VALUE};

    private static long seed = 20261118L;
    private static SermonScale x;
    private static PlainModel model;
    private static int calls;

    public static void main(String[] args) {
        for (int run = 1; run <= RUNS; run++) {
            x = new SermonScale();
            model = new PlainModel();
            calls = 0;
            while (calls < MOST_CALLS) {
                if (next(30) == 0 || calls == 0) {
                    tellSome(run);
                } else {
                    callSome(run);
                }
            }
        }
        C.end();
    }

    private static int next(int bound) {
        seed = seed * 6364136223846793005L + 1442695040888963407L;
        return (int) ((seed >>> 33) % bound);
    }

    private static void compare(int run, String call, int a, int b, int c) {
        calls++;
        if (calls <= MOST_CALLS) {
            String told = "run " + run + ", call " + calls + ": " + call + "(" + a + ", " + b + ", " + c + ")";
            C.due(told, Calls.answer(x, call, a, b, c), model.answer(call, a, b, c));
        }
    }

    private static void callSome(int run) {
        String call = CALLS[next(CALLS.length)];
        if (call.equals("erase") && next(3) > 0) {
            call = "count";
        }
        int a = number(call.equals("confessed") ? 12 : call.equals("never") ? 60 : 17);
        int b = number(call.equals("heard") ? 50 : 11);
        int c = number(call.equals("seen") ? 40 : 3);
        compare(run, call, a, b, c);
    }

    private static int number(int bound) {
        return next(25) == 0 ? WILD[next(WILD.length)] : next(bound);
    }

    private static void tellSome(int run) {
        StringBuilder text = new StringBuilder();
        int clauses = 1 + next(next(4) == 0 ? 16 : 7);
        for (int i = 0; i < clauses; i++) {
            text.append(i == 0 ? "" : ";").append(blanks()).append(clause(i));
        }
        if (next(4) == 0) {
            spoil(text);
        }
        compare(run, "erase", 0, 0, 0);
        for (int i = 0; i < text.length(); i++) {
            compare(run, "write", text.charAt(i), 0, 0);
        }
        compare(run, "fault", 0, 0, 0);
        compare(run, "kirk", 0, 0, 0);
    }

    private static String blanks() {
        return next(5) == 0 ? " ".repeat(next(3)) : "";
    }

    private static String clause(int place) {
        int which = place == 0 && next(2) == 0 ? 0 : 1 + next(12);
        switch (which) {
            case 0: return "kirk";
            case 1: case 2: case 3: return "word" + blanks() + next(21) + " " + (1 + next(30));
            case 4: case 5: return "greek " + next(21) + " " + (1 + next(6)) + blanks();
            case 6: return "quote " + next(21) + blanks() + " " + (1 + next(6));
            case 7: return "psalm " + next(21) + " 0" + (1 + next(6));
            case 8: case 9: return "soul " + next(next(2) == 0 ? 41 : 9);
            case 10: return "thumb " + next(10);
            case 11: return "beam " + next(6);
            default: return next(3) == 0 ? "kirk" : "wet " + next(10);
        }
    }

    private static void spoil(StringBuilder text) {
        int at = next(text.length());
        switch (next(3)) {
            case 0: text.deleteCharAt(at); break;
            case 1: text.setCharAt(at, (char) next(256)); break;
            default: text.insert(at, "0123456789 ;abkrw\n".charAt(next(18))); break;
        }
    }
}
