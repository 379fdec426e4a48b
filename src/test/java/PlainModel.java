import java.math.BigInteger;
import java.util.ArrayDeque;
import java.util.ArrayList;
import java.util.List;
import java.util.regex.Matcher;
import java.util.regex.Pattern;

/** The document once more, with the whole Java library and no thought of speed, to compare the class with. */
final class PlainModel {
    private record Part(String kind, int weight, int minutes) {
        int ounces(int wet) {
            return switch (kind) {
                case "greek" -> weight + wet;
                case "quote" -> weight / 2;
                case "psalm" -> 0;
                default -> weight;
            };
        }
    }

    private record Parish(List<Part> parts, List<Integer> sins, int thumb, int beam, int wet) {
        static Parish atFirst() {
            return new Parish(List.of(), List.of(), 0, 1, 0);
        }
    }

    private record Week(List<Integer> sins, List<Integer> preached, int ballast, int wet, int sunday, int minutes,
            int levels) {
    }

    private record Seen(int parts, int wet, int ounces) {
    }

    private record Heard(int parts, int lead, int level, int wet) {
    }

    private record Read(int fault, int clauses, Parish parish) {
    }

    private static final Pattern TOKEN = Pattern.compile("[a-z]+|[0-9]+|[^ ]", Pattern.DOTALL);
    private static final List<String> KINDS = List.of("word", "greek", "quote", "psalm");
    private static final int NONE = -1, UNKNOWN = -2, OUTSIDE = -3, NOT = -4, FULL = -5;

    private String text = "";
    private Parish parish = Parish.atFirst();
    private Week week = weekAsTold();
    private final ArrayDeque<Week> past = new ArrayDeque<>();
    private final Week[] kept = new Week[2];
    private final List<Seen> allSeen = new ArrayList<>();
    private final List<Heard> allHeard = new ArrayList<>();

    int answer(String call, int a, int b, int c) {
        return switch (call) {
            case "write" -> write(a);
            case "erase" -> erase();
            case "fault" -> read().fault;
            case "kirk" -> kirk();
            case "part" -> part(a, b);
            case "sins" -> isSoul(a) ? week.sins.get(a) : UNKNOWN;
            case "as" -> as(a, b);
            case "preach" -> preach(a);
            case "sin" -> sin(a, b);
            case "ballast" -> ballast(a);
            case "rain" -> rain(a);
            case "sunday" -> sunday();
            case "undo" -> undo();
            case "keep" -> keep(a);
            case "back" -> back(a);
            case "stops" -> stops();
            case "soonest" -> soonest(a);
            case "never" -> never(a);
            case "seen" -> seen(a, b, c);
            case "heard" -> heard(a, b, c);
            case "forget" -> forget();
            case "weights" -> weights(a);
            case "thumbs" -> thumbs();
            case "confessed" -> confessed(a, b);
            default -> count(a);
        };
    }

    private int write(int letter) {
        if (letter < 0 || letter > 255) {
            return OUTSIDE;
        }
        if (text.length() == 160) {
            return FULL;
        }
        text += (char) letter;
        return text.length();
    }

    private int erase() {
        int had = text.length();
        text = "";
        return had;
    }

    private Read read() {
        List<String> tokens = new ArrayList<>();
        List<Integer> places = new ArrayList<>();
        Matcher m = TOKEN.matcher(text);
        while (m.find()) {
            tokens.add(m.group());
            places.add(m.start());
        }
        tokens.add("");
        places.add(text.length());
        Parish told = parish;
        int at = 0;
        for (int clauses = 1; ; clauses++) {
            String word = tokens.get(at);
            List<Integer> numbers = new ArrayList<>();
            if (!canStand(word, told)) {
                return new Read(places.get(at), 0, null);
            }
            at++;
            for (int[] bounds : boundsBehind(word)) {
                String number = tokens.get(at);
                if (!number.matches("[0-9]{1,2}") || Integer.parseInt(number) < bounds[0]
                        || Integer.parseInt(number) > bounds[1]) {
                    return new Read(places.get(at), 0, null);
                }
                numbers.add(Integer.parseInt(number));
                at++;
            }
            told = toldBy(told, word, numbers);
            if (tokens.get(at).isEmpty()) {
                return new Read(NONE, clauses, told);
            }
            if (!tokens.get(at).equals(";") || clauses == 14) {
                return new Read(places.get(at), 0, null);
            }
            at++;
        }
    }

    private static boolean canStand(String word, Parish told) {
        if (KINDS.contains(word)) {
            return told.parts.size() < 8;
        }
        return word.equals("soul") ? told.sins.size() < 6 : List.of("kirk", "thumb", "beam", "wet").contains(word);
    }

    private static int[][] boundsBehind(String word) {
        return switch (word) {
            case "kirk" -> new int[][] {};
            case "soul" -> new int[][] {{0, 40}};
            case "thumb", "wet" -> new int[][] {{0, 9}};
            case "beam" -> new int[][] {{0, 5}};
            default -> new int[][] {{0, 20}, {1, 30}};
        };
    }

    private static Parish toldBy(Parish p, String word, List<Integer> n) {
        return switch (word) {
            case "kirk" -> Parish.atFirst();
            case "soul" -> new Parish(p.parts, with(p.sins, n.get(0)), p.thumb, p.beam, p.wet);
            case "thumb" -> new Parish(p.parts, p.sins, n.get(0), p.beam, p.wet);
            case "beam" -> new Parish(p.parts, p.sins, p.thumb, n.get(0), p.wet);
            case "wet" -> new Parish(p.parts, p.sins, p.thumb, p.beam, n.get(0));
            default -> new Parish(with(p.parts, new Part(word, n.get(0), n.get(1))), p.sins, p.thumb, p.beam, p.wet);
        };
    }

    private static <T> List<T> with(List<T> list, T more) {
        List<T> longer = new ArrayList<>(list);
        longer.add(more);
        return longer;
    }

    private Week weekAsTold() {
        return new Week(parish.sins, List.of(), 0, parish.wet, 0, 0, 0);
    }

    private int kirk() {
        Read read = read();
        if (read.fault != NONE) {
            return NOT;
        }
        parish = read.parish;
        week = weekAsTold();
        text = "";
        past.clear();
        kept[0] = null;
        kept[1] = null;
        forget();
        return read.clauses;
    }

    private boolean isPart(int part) {
        return part >= 0 && part < parish.parts.size();
    }

    private boolean isSoul(int soul) {
        return soul >= 0 && soul < parish.sins.size();
    }

    private boolean isSet(int parts) {
        return parts >= 0 && parts < Math.pow(2, parish.parts.size());
    }

    private int part(int part, int what) {
        if (!isPart(part)) {
            return UNKNOWN;
        }
        Part p = parish.parts.get(part);
        return switch (what) {
            case 0 -> KINDS.indexOf(p.kind);
            case 1 -> p.weight;
            case 2 -> p.minutes;
            case 3 -> p.ounces(week.wet);
            case 4 -> week.preached.contains(part) ? 1 : 0;
            default -> OUTSIDE;
        };
    }

    private int as(int part, int kind) {
        if (!isPart(part)) {
            return UNKNOWN;
        }
        if (kind < 0 || kind > 4) {
            return OUTSIDE;
        }
        Part p = parish.parts.get(part);
        List<Integer> all = switch (p.kind) {
            case "word" -> List.of(0, 1);
            case "greek" -> List.of(0, 1, 2);
            case "quote" -> List.of(0, 1, 3);
            default -> List.of(0, 4);
        };
        return all.contains(kind) ? p.ounces(9) : NOT;
    }

    private int sermon() {
        return parish.thumb + week.preached.stream().mapToInt(p -> parish.parts.get(p).ounces(week.wet)).sum();
    }

    private int lead() {
        return Math.max(0, week.sins.stream().mapToInt(s -> s).sum() - week.ballast);
    }

    private boolean level(int sermon, int lead) {
        return sermon - lead <= parish.beam && lead - sermon <= parish.beam;
    }

    private int preach(int part) {
        if (!isPart(part)) {
            return UNKNOWN;
        }
        if (week.preached.contains(part) || level(sermon(), lead())) {
            return NOT;
        }
        become(new Week(week.sins, with(week.preached, part), week.ballast, week.wet, week.sunday,
                week.minutes + parish.parts.get(part).minutes, week.levels));
        return sermon() - lead() + 9999;
    }

    private void become(Week next) {
        past.addLast(week);
        if (past.size() > 8) {
            past.removeFirst();
        }
        week = next;
    }

    private int sin(int soul, int s) {
        if (!isSoul(soul)) {
            return UNKNOWN;
        }
        if (s < 1 || s > 20) {
            return OUTSIDE;
        }
        List<Integer> sins = new ArrayList<>(week.sins);
        sins.set(soul, Math.min(99, sins.get(soul) + s));
        become(new Week(sins, week.preached, week.ballast, week.wet, week.sunday, week.minutes, week.levels));
        return sins.get(soul);
    }

    private int ballast(int b) {
        if (b < 1 || b > 20) {
            return OUTSIDE;
        }
        become(new Week(week.sins, week.preached, Math.min(99, week.ballast + b), week.wet, week.sunday, week.minutes,
                week.levels));
        return week.ballast;
    }

    private int rain(int r) {
        if (r < 0 || r > 9) {
            return OUTSIDE;
        }
        int was = week.wet;
        become(new Week(week.sins, week.preached, week.ballast, r, week.sunday, week.minutes, week.levels));
        return was;
    }

    private int sunday() {
        if (week.sunday == 999) {
            return FULL;
        }
        boolean level = level(sermon(), lead());
        List<Integer> sins = week.sins.stream().map(s -> level ? 0 : s / 2).toList();
        become(new Week(sins, List.of(), 0, week.wet, week.sunday + 1, week.minutes, week.levels + (level ? 1 : 0)));
        return level ? 1 : 0;
    }

    private int undo() {
        if (past.isEmpty()) {
            return NOT;
        }
        week = past.removeLast();
        return past.size();
    }

    private int keep(int k) {
        if (k != 0 && k != 1) {
            return UNKNOWN;
        }
        kept[k] = week;
        return week.sunday;
    }

    private int back(int k) {
        if (k != 0 && k != 1) {
            return UNKNOWN;
        }
        if (kept[k] == null) {
            return NOT;
        }
        week = kept[k];
        past.clear();
        return week.sunday;
    }

    private int stops() {
        int sermon = sermon();
        int many = 0;
        for (int part = 0; !level(sermon, lead()); part++) {
            if (part == parish.parts.size()) {
                return NONE;
            }
            if (!week.preached.contains(part)) {
                sermon += parish.parts.get(part).ounces(week.wet);
                many++;
            }
        }
        return many;
    }

    /** All sets of parts that are not preached and would bring it level, as rows of minutes, parts, bits. */
    private List<int[]> levelSets(int lead) {
        List<int[]> sets = new ArrayList<>();
        for (int set = 0; isSet(set); set++) {
            int sermon = sermon();
            int minutes = 0;
            boolean fresh = true;
            for (int part = 0; isPart(part); part++) {
                if (set / (1 << part) % 2 == 1) {
                    fresh &= !week.preached.contains(part);
                    sermon += parish.parts.get(part).ounces(week.wet);
                    minutes += parish.parts.get(part).minutes;
                }
            }
            if (fresh && level(sermon, lead)) {
                sets.add(new int[] {minutes, Integer.bitCount(set), set});
            }
        }
        sets.sort(java.util.Arrays::compare);
        return sets;
    }

    private int soonest(int what) {
        if (what != 0 && what != 1) {
            return OUTSIDE;
        }
        List<int[]> sets = levelSets(lead());
        return sets.isEmpty() ? NONE : sets.get(0)[what == 0 ? 2 : 0];
    }

    private int never(int v) {
        if (v < 0 || v > 99) {
            return OUTSIDE;
        }
        return levelSets(v).isEmpty() ? 1 : 0;
    }

    private int seen(int parts, int w, int v) {
        if (!isSet(parts)) {
            return UNKNOWN;
        }
        if (w < 0 || w > 9 || v < 0 || v > 255) {
            return OUTSIDE;
        }
        if (allSeen.size() == 6) {
            return FULL;
        }
        allSeen.add(new Seen(parts, w, v));
        return allSeen.size();
    }

    private int heard(int parts, int v, int level) {
        if (!isSet(parts)) {
            return UNKNOWN;
        }
        if (v < 0 || v > 99 || level < 0 || level > 1) {
            return OUTSIDE;
        }
        if (allHeard.size() == 6) {
            return FULL;
        }
        allHeard.add(new Heard(parts, v, level, week.wet));
        return allHeard.size();
    }

    private int forget() {
        int had = allSeen.size() + allHeard.size();
        allSeen.clear();
        allHeard.clear();
        return had;
    }

    private static int weigh(List<Part> parts, int set, int wet) {
        int ounces = 0;
        for (int part = 0; part < parts.size(); part++) {
            ounces += set / (1 << part) % 2 * parts.get(part).ounces(wet);
        }
        return ounces;
    }

    private int weights(int part) {
        if (!isPart(part)) {
            return UNKNOWN;
        }
        int bits = 0;
        for (int w = 0; w <= 20; w++) {
            List<Part> parts = new ArrayList<>(parish.parts);
            parts.set(part, new Part(parts.get(part).kind, w, 1));
            bits += allSeen.stream().allMatch(s -> weigh(parts, s.parts, s.wet) == s.ounces) ? Math.pow(2, w) : 0;
        }
        return bits;
    }

    private int thumbs() {
        int bits = 0;
        for (int t = 0; t <= 9; t++) {
            int thumb = t;
            bits += allHeard.stream().allMatch(h -> level(weigh(parish.parts, h.parts, h.wet) + thumb, h.lead)
                    == (h.level == 1)) ? Math.pow(2, t) : 0;
        }
        return bits;
    }

    private int confessed(int q, int part) {
        if (q < 0 || q > 10 || part < 0 || part > 1) {
            return OUTSIDE;
        }
        BigInteger above = BigInteger.valueOf(goodWays(0, 0, q));
        BigInteger below = BigInteger.TEN.pow(parish.sins.size());
        return (part == 0 ? above : below).divide(above.gcd(below)).intValue();
    }

    private int goodWays(int soul, int sins, int q) {
        if (!isSoul(soul)) {
            return level(sermon(), Math.max(0, sins - week.ballast)) ? 1 : 0;
        }
        return q * goodWays(soul + 1, sins, q) + (10 - q) * goodWays(soul + 1, sins + week.sins.get(soul), q);
    }

    private int count(int what) {
        return switch (what) {
            case 0 -> parish.parts.size();
            case 1 -> parish.sins.size();
            case 2 -> week.sunday;
            case 3 -> sermon();
            case 4 -> lead();
            case 5 -> level(sermon(), lead()) ? 1 : 0;
            case 6 -> week.preached.stream().mapToInt(p -> 1 << p).sum();
            case 7 -> week.minutes;
            case 8 -> week.levels;
            case 9 -> week.ballast;
            case 10 -> week.wet;
            case 11 -> allSeen.size();
            case 12 -> allHeard.size();
            case 13 -> past.size();
            case 14 -> text.length();
            default -> OUTSIDE;
        };
    }
}
