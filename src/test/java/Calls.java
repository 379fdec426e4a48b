/** The public face by the names of its calls. */
final class Calls {
    private Calls() {
    }

    static int answer(SermonScale x, String call, int a, int b, int c) {
        return switch (call) {
            case "write" -> x.write(a);
            case "erase" -> x.erase();
            case "fault" -> x.fault();
            case "kirk" -> x.kirk();
            case "part" -> x.part(a, b);
            case "sins" -> x.sins(a);
            case "as" -> x.as(a, b);
            case "preach" -> x.preach(a);
            case "sin" -> x.sin(a, b);
            case "ballast" -> x.ballast(a);
            case "rain" -> x.rain(a);
            case "sunday" -> x.sunday();
            case "undo" -> x.undo();
            case "keep" -> x.keep(a);
            case "back" -> x.back(a);
            case "stops" -> x.stops();
            case "soonest" -> x.soonest(a);
            case "never" -> x.never(a);
            case "seen" -> x.seen(a, b, c);
            case "heard" -> x.heard(a, b, c);
            case "forget" -> x.forget();
            case "weights" -> x.weights(a);
            case "thumbs" -> x.thumbs();
            case "confessed" -> x.confessed(a, b);
            case "count" -> x.count(a);
            default -> throw new IllegalArgumentException(call);
        };
    }
}
