import java.util.regex.Matcher;
import java.util.regex.Pattern;

/**
 * A run of calls told in one line, as "'soul 9' kirk()=1 sin(0,20)=29 sunday()": a text between ' and ' is
 * written letter by letter, and where a call tells an answer, it is due.
 */
final class Script {
    private static final Pattern STEP = Pattern.compile(
            "\\s*(?:'([^']*)'|([a-z]+)\\((?:(-?\\d+)(?:,(-?\\d+)(?:,(-?\\d+))?)?)?\\)(?:=(-?\\w+))?)\\s*");

    private Script() {
    }

    /** Runs it on a new object. */
    static void run(Check c, String sentence, String script) {
        goOn(c, sentence, new SermonScale(), script);
    }

    /** Runs it on this object: how many calls it took. */
    static int goOn(Check c, String sentence, SermonScale x, String script) {
        Matcher step = STEP.matcher(script);
        int calls = 0;
        int at = 0;
        for (; at < script.length() && step.find(at) && step.start() == at; at = step.end()) {
            if (step.group(1) != null) {
                Check.put(x, step.group(1));
                calls += step.group(1).length();
                continue;
            }
            calls++;
            int answer = Calls.answer(x, step.group(2), number(step, 3), number(step, 4), number(step, 5));
            if (step.group(6) != null) {
                c.due(sentence + ": " + step.group().trim() + " in " + shown(script), answer, due(step.group(6)));
            }
        }
        c.due(sentence + ": where the script was read to, of " + shown(script), at, script.length());
        return calls;
    }

    private static int number(Matcher step, int group) {
        return step.group(group) == null ? 0 : Integer.parseInt(step.group(group));
    }

    private static int due(String answer) {
        return switch (answer) {
            case "NONE" -> Check.NONE;
            case "UNKNOWN" -> Check.UNKNOWN;
            case "OUTSIDE" -> Check.OUTSIDE;
            case "NOT" -> Check.NOT;
            case "FULL" -> Check.FULL;
            default -> Integer.parseInt(answer);
        };
    }

    private static String shown(String script) {
        return script.length() <= 200 ? script : script.substring(0, 200) + " ..";
    }
}
