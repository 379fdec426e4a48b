/** The weighing of sermons: ../shared/DOC.md says what each call answers. */
public final class SermonScale {
    public static final int NONE = -1, UNKNOWN = -2, OUTSIDE = -3, NOT = -4, FULL = -5;

    private static final int MOST_LETTERS = 160;
    private static final int MOST_LETTER = 255;
    private static final int MOST_CLAUSES = 14;
    private static final int MOST_PARTS = 8;
    private static final int MOST_SOULS = 6;
    private static final int MOST_WEIGHT = 20;
    private static final int MOST_MINUTES = 30;
    private static final int MOST_TOLD_SINS = 40;
    private static final int MOST_SINS = 99;
    private static final int MOST_BALLAST = 99;
    private static final int MOST_LEAD = 99;
    private static final int MOST_AT_ONCE = 20;
    private static final int MOST_THUMB = 9;
    private static final int MOST_BEAM = 5;
    private static final int MOST_WET = 9;
    private static final int LAST_SUNDAY = 999;
    private static final int MOST_UNDONE = 8;
    private static final int MOST_KEPT = 2;
    private static final int MOST_NOTED = 6;
    private static final int MOST_SEEN_OUNCES = 255;
    private static final int TENTHS = 10;
    private static final int ABOVE_ZERO = 9999;

    private static final int KIND_WORD = 0, KIND_GREEK = 1, KIND_QUOTE = 2, KIND_PSALM = 3;

    private static final int CLAUSE_KIRK = 0, CLAUSE_WORD = 1, CLAUSE_GREEK = 2, CLAUSE_QUOTE = 3,
            CLAUSE_PSALM = 4, CLAUSE_SOUL = 5, CLAUSE_THUMB = 6, CLAUSE_BEAM = 7, CLAUSE_WET = 8;

    private final Text text;
    private final Parish parish;
    private final Week now;
    private final Week[] past;
    private final Week[] kept;
    private final boolean[] isKept;
    private final Notes notes;
    private int undoable;
    private int nextPast;

    public SermonScale() {
        text = new Text();
        parish = new Parish();
        now = new Week();
        past = newWeeks(MOST_UNDONE);
        kept = newWeeks(MOST_KEPT);
        isKept = new boolean[MOST_KEPT];
        notes = new Notes();
    }

    private static Week[] newWeeks(int many) {
        Week[] weeks = new Week[many];
        for (int i = 0; i < weeks.length; i++) {
            weeks[i] = new Week();
        }
        return weeks;
    }

    // ---- what is told

    public int write(int letter) {
        if (!isWithin(letter, 0, MOST_LETTER)) {
            return OUTSIDE;
        }
        return text.add(letter) ? text.length : FULL;
    }

    public int erase() {
        int had = text.length;
        text.length = 0;
        return had;
    }

    public int fault() {
        return text.firstFault(parish.parts, parish.souls);
    }

    public int kirk() {
        if (text.firstFault(parish.parts, parish.souls) != NONE) {
            return NOT;
        }
        int done = text.clauses;
        for (int i = 0; i < done; i++) {
            parish.tell(text.word[i], text.first[i], text.second[i]);
        }
        text.length = 0;
        beginAnew();
        return done;
    }

    private void beginAnew() {
        now.beginAsTold(parish);
        notes.clear();
        for (int k = 0; k < MOST_KEPT; k++) {
            isKept[k] = false;
        }
        undoable = 0;
    }

    public int part(int part, int what) {
        if (!isPart(part)) {
            return UNKNOWN;
        }
        switch (what) {
            case 0: return parish.kind[part];
            case 1: return parish.weight[part];
            case 2: return parish.minutes[part];
            case 3: return ouncesOf(parish.kind[part], parish.weight[part], now.wet);
            case 4: return isIn(part, now.preached) ? 1 : 0;
            default: return OUTSIDE;
        }
    }

    public int sins(int soul) {
        return isSoul(soul) ? now.sins[soul] : UNKNOWN;
    }

    public int as(int part, int kind) {
        if (!isPart(part)) {
            return UNKNOWN;
        }
        if (!isWithin(kind, 0, KIND_PSALM + 1)) {
            return OUTSIDE;
        }
        if (!isTakenAs(parish.kind[part], kind)) {
            return NOT;
        }
        return ouncesOf(parish.kind[part], parish.weight[part], MOST_WET);
    }

    /** Kinds to take a part as are numbered one higher than the kinds of parts, for 0 is any part. */
    private static boolean isTakenAs(int kind, int taken) {
        boolean anyPart = taken == 0;
        boolean anyWord = taken == KIND_WORD + 1 && kind != KIND_PSALM;
        return anyPart || anyWord || taken == kind + 1;
    }

    // ---- what is done

    public int preach(int part) {
        if (!isPart(part)) {
            return UNKNOWN;
        }
        if (isIn(part, now.preached) || hangsLevelNow()) {
            return NOT;
        }
        rememberWeek();
        now.preached |= 1 << part;
        now.minutes += parish.minutes[part];
        return sermonOf(now.preached) - leadNow() + ABOVE_ZERO;
    }

    public int sin(int soul, int s) {
        if (!isSoul(soul)) {
            return UNKNOWN;
        }
        if (!isWithin(s, 1, MOST_AT_ONCE)) {
            return OUTSIDE;
        }
        rememberWeek();
        now.sins[soul] = Math.min(now.sins[soul] + s, MOST_SINS);
        return now.sins[soul];
    }

    public int ballast(int b) {
        if (!isWithin(b, 1, MOST_AT_ONCE)) {
            return OUTSIDE;
        }
        rememberWeek();
        now.paid = Math.min(now.paid + b, MOST_BALLAST);
        return now.paid;
    }

    public int rain(int r) {
        if (!isWithin(r, 0, MOST_WET)) {
            return OUTSIDE;
        }
        rememberWeek();
        int was = now.wet;
        now.wet = r;
        return was;
    }

    public int sunday() {
        if (now.number >= LAST_SUNDAY) {
            return FULL;
        }
        boolean level = hangsLevelNow();
        rememberWeek();
        now.end(level);
        return level ? 1 : 0;
    }

    public int undo() {
        if (undoable <= 0) {
            return NOT;
        }
        undoable--;
        nextPast = (nextPast + MOST_UNDONE - 1) % MOST_UNDONE;
        now.becomeLike(past[nextPast]);
        return undoable;
    }

    /** The weeks of the past go round in their row: the ninth takes the place of the first. */
    private void rememberWeek() {
        past[nextPast].becomeLike(now);
        nextPast = (nextPast + 1) % MOST_UNDONE;
        undoable = Math.min(undoable + 1, MOST_UNDONE);
    }

    public int keep(int k) {
        if (!isWithin(k, 0, MOST_KEPT - 1)) {
            return UNKNOWN;
        }
        kept[k].becomeLike(now);
        isKept[k] = true;
        return now.number;
    }

    public int back(int k) {
        if (!isWithin(k, 0, MOST_KEPT - 1)) {
            return UNKNOWN;
        }
        if (!isKept[k]) {
            return NOT;
        }
        now.becomeLike(kept[k]);
        undoable = 0;
        return now.number;
    }

    // ---- foretold

    public int stops() {
        int lead = leadNow();
        int set = now.preached;
        int many = 0;
        if (hangsLevel(sermonOf(set), lead)) {
            return many;
        }
        for (int part = 0; part < parish.parts; part++) {
            if (isIn(part, now.preached)) {
                continue;
            }
            set |= 1 << part;
            many++;
            if (hangsLevel(sermonOf(set), lead)) {
                return many;
            }
        }
        return NONE;
    }

    public int soonest(int what) {
        if (!isWithin(what, 0, 1)) {
            return OUTSIDE;
        }
        int best = soonestSet();
        if (best == NONE) {
            return NONE;
        }
        return what == 0 ? best : parish.minutesOf(best);
    }

    private int soonestSet() {
        int lead = leadNow();
        int best = NONE;
        for (int set = 0; set < 1 << parish.parts; set++) {
            if (levels(set, lead) && (best == NONE || isSooner(set, best))) {
                best = set;
            }
        }
        return best;
    }

    /** Of equal sets the lesser number is first: the sets are gone through from the least upwards. */
    private boolean isSooner(int set, int other) {
        int minutes = parish.minutesOf(set);
        int otherMinutes = parish.minutesOf(other);
        if (minutes != otherMinutes) {
            return minutes < otherMinutes;
        }
        return Integer.bitCount(set) < Integer.bitCount(other);
    }

    public int never(int v) {
        if (!isWithin(v, 0, MOST_LEAD)) {
            return OUTSIDE;
        }
        for (int set = 0; set < 1 << parish.parts; set++) {
            if (levels(set, v)) {
                return 0;
            }
        }
        return 1;
    }

    /** Whether these parts, none of them preached yet, would bring it level with the lead. */
    private boolean levels(int set, int lead) {
        return (set & now.preached) == 0 && hangsLevel(sermonOf(now.preached | set), lead);
    }

    // ---- what was seen

    public int seen(int parts, int w, int v) {
        if (!isSet(parts)) {
            return UNKNOWN;
        }
        if (!isWithin(w, 0, MOST_WET) || !isWithin(v, 0, MOST_SEEN_OUNCES)) {
            return OUTSIDE;
        }
        return notes.addSeen(parts, w, v) ? notes.seenMany : FULL;
    }

    public int heard(int parts, int v, int level) {
        if (!isSet(parts)) {
            return UNKNOWN;
        }
        if (!isWithin(v, 0, MOST_LEAD) || !isWithin(level, 0, 1)) {
            return OUTSIDE;
        }
        return notes.addHeard(parts, v, level == 1, now.wet) ? notes.heardMany : FULL;
    }

    public int forget() {
        int had = notes.seenMany + notes.heardMany;
        notes.clear();
        return had;
    }

    public int weights(int part) {
        if (!isPart(part)) {
            return UNKNOWN;
        }
        int fitting = 0;
        for (int weight = 0; weight <= MOST_WEIGHT; weight++) {
            if (fitsAllSeen(part, weight)) {
                fitting |= 1 << weight;
            }
        }
        return fitting;
    }

    private boolean fitsAllSeen(int part, int weight) {
        for (int i = 0; i < notes.seenMany; i++) {
            int set = notes.seenParts[i];
            int wet = notes.seenWet[i];
            int ounces = parish.ouncesOfSet(set & ~(1 << part), wet);
            if (isIn(part, set)) {
                ounces += ouncesOf(parish.kind[part], weight, wet);
            }
            if (ounces != notes.seenOunces[i]) {
                return false;
            }
        }
        return true;
    }

    public int thumbs() {
        int fitting = 0;
        for (int thumb = 0; thumb <= MOST_THUMB; thumb++) {
            if (fitsAllHeard(thumb)) {
                fitting |= 1 << thumb;
            }
        }
        return fitting;
    }

    private boolean fitsAllHeard(int thumb) {
        for (int i = 0; i < notes.heardMany; i++) {
            int sermon = parish.ouncesOfSet(notes.heardParts[i], notes.heardWet[i]) + thumb;
            if (hangsLevel(sermon, notes.heardLead[i]) != notes.heardLevel[i]) {
                return false;
            }
        }
        return true;
    }

    public int confessed(int q, int part) {
        if (!isWithin(q, 0, TENTHS) || !isWithin(part, 0, 1)) {
            return OUTSIDE;
        }
        int sermon = sermonOf(now.preached);
        int good = 0;
        int all = 0;
        for (int set = 0; set < 1 << parish.souls; set++) {
            int ways = waysOfConfessing(set, q);
            all += ways;
            if (hangsLevel(sermon, leadWithout(set))) {
                good += ways;
            }
        }
        int divisor = Math.max(greatestDivisor(good, all), 1);
        return (part == 0 ? good : all) / divisor;
    }

    /** In how many of all the ways, ten for each of the people, just these confess. */
    private int waysOfConfessing(int set, int q) {
        int ways = 1;
        for (int soul = 0; soul < parish.souls; soul++) {
            ways *= isIn(soul, set) ? q : TENTHS - q;
        }
        return ways;
    }

    private static int greatestDivisor(int a, int b) {
        int high = a;
        int low = b;
        // Euclid's rests at least halve every second step: 64 steps end it for any int.
        for (int step = 0; step < 64 && low != 0; step++) {
            int rest = high % low;
            high = low;
            low = rest;
        }
        return high;
    }

    public int count(int what) {
        switch (what) {
            case 0: return parish.parts;
            case 1: return parish.souls;
            case 2: return now.number;
            case 3: return sermonOf(now.preached);
            case 4: return leadNow();
            case 5: return hangsLevelNow() ? 1 : 0;
            case 6: return now.preached;
            case 7: return now.minutes;
            case 8: return now.levelSundays;
            case 9: return now.paid;
            case 10: return now.wet;
            case 11: return notes.seenMany;
            case 12: return notes.heardMany;
            case 13: return undoable;
            case 14: return text.length;
            default: return OUTSIDE;
        }
    }

    // ---- weighing

    private boolean hangsLevelNow() {
        return hangsLevel(sermonOf(now.preached), leadNow());
    }

    private boolean hangsLevel(int sermon, int lead) {
        return Math.abs(sermon - lead) <= parish.beam;
    }

    private int sermonOf(int set) {
        return parish.ouncesOfSet(set, now.wet) + parish.thumb;
    }

    private int leadNow() {
        return leadWithout(0);
    }

    private int leadWithout(int confessing) {
        int lead = -now.paid;
        for (int soul = 0; soul < parish.souls; soul++) {
            if (!isIn(soul, confessing)) {
                lead += now.sins[soul];
            }
        }
        return Math.max(lead, 0);
    }

    private static int ouncesOf(int kind, int weight, int wet) {
        switch (kind) {
            case KIND_GREEK: return weight + wet;
            case KIND_QUOTE: return weight / 2;
            case KIND_PSALM: return 0;
            default: return weight;
        }
    }

    private boolean isPart(int part) {
        return part >= 0 && part < parish.parts;
    }

    private boolean isSoul(int soul) {
        return soul >= 0 && soul < parish.souls;
    }

    private boolean isSet(int parts) {
        return parts >= 0 && parts < 1 << parish.parts;
    }

    private static boolean isIn(int member, int set) {
        return (set >> member & 1) == 1;
    }

    private static boolean isWithin(int number, int least, int most) {
        return number >= least && number <= most;
    }

    /** What the texts told, whatever became of it since. */
    private static final class Parish {
        final int[] kind = new int[MOST_PARTS];
        final int[] weight = new int[MOST_PARTS];
        final int[] minutes = new int[MOST_PARTS];
        final int[] toldSins = new int[MOST_SOULS];
        int parts;
        int souls;
        int thumb;
        int beam;
        int toldWet;

        Parish() {
            beginAsAtFirst();
        }

        private void beginAsAtFirst() {
            parts = 0;
            souls = 0;
            thumb = 0;
            beam = 1;
            toldWet = 0;
        }

        void tell(int clause, int first, int second) {
            switch (clause) {
                case CLAUSE_KIRK: beginAsAtFirst(); break;
                case CLAUSE_WORD: addPart(KIND_WORD, first, second); break;
                case CLAUSE_GREEK: addPart(KIND_GREEK, first, second); break;
                case CLAUSE_QUOTE: addPart(KIND_QUOTE, first, second); break;
                case CLAUSE_PSALM: addPart(KIND_PSALM, first, second); break;
                case CLAUSE_SOUL: addSoul(first); break;
                case CLAUSE_THUMB: thumb = first; break;
                case CLAUSE_BEAM: beam = first; break;
                case CLAUSE_WET: toldWet = first; break;
                default: break;
            }
        }

        private void addPart(int newKind, int newWeight, int newMinutes) {
            if (parts < MOST_PARTS) {
                kind[parts] = newKind;
                weight[parts] = newWeight;
                minutes[parts] = newMinutes;
                parts++;
            }
        }

        private void addSoul(int ounces) {
            if (souls < MOST_SOULS) {
                toldSins[souls] = ounces;
                souls++;
            }
        }

        int ouncesOfSet(int set, int wet) {
            int ounces = 0;
            for (int part = 0; part < parts; part++) {
                if (isIn(part, set)) {
                    ounces += ouncesOf(kind[part], weight[part], wet);
                }
            }
            return ounces;
        }

        int minutesOf(int set) {
            int sum = 0;
            for (int part = 0; part < parts; part++) {
                if (isIn(part, set)) {
                    sum += minutes[part];
                }
            }
            return sum;
        }
    }

    /** What is done changes this, and this alone: it is what is undone and kept. */
    private static final class Week {
        final int[] sins = new int[MOST_SOULS];
        int preached;
        int paid;
        int wet;
        int number;
        int minutes;
        int levelSundays;

        void beginAsTold(Parish parish) {
            System.arraycopy(parish.toldSins, 0, sins, 0, MOST_SOULS);
            preached = 0;
            paid = 0;
            wet = parish.toldWet;
            number = 0;
            minutes = 0;
            levelSundays = 0;
        }

        void end(boolean level) {
            for (int soul = 0; soul < MOST_SOULS; soul++) {
                sins[soul] = level ? 0 : sins[soul] / 2;
            }
            preached = 0;
            paid = 0;
            number++;
            levelSundays += level ? 1 : 0;
        }

        void becomeLike(Week other) {
            System.arraycopy(other.sins, 0, sins, 0, MOST_SOULS);
            preached = other.preached;
            paid = other.paid;
            wet = other.wet;
            number = other.number;
            minutes = other.minutes;
            levelSundays = other.levelSundays;
        }
    }

    /** What was seen and heard. How wet it was belongs to what was heard, for it may rain behind it. */
    private static final class Notes {
        final int[] seenParts = new int[MOST_NOTED];
        final int[] seenWet = new int[MOST_NOTED];
        final int[] seenOunces = new int[MOST_NOTED];
        final int[] heardParts = new int[MOST_NOTED];
        final int[] heardLead = new int[MOST_NOTED];
        final int[] heardWet = new int[MOST_NOTED];
        final boolean[] heardLevel = new boolean[MOST_NOTED];
        int seenMany;
        int heardMany;

        boolean addSeen(int parts, int wet, int ounces) {
            if (seenMany >= MOST_NOTED) {
                return false;
            }
            seenParts[seenMany] = parts;
            seenWet[seenMany] = wet;
            seenOunces[seenMany] = ounces;
            seenMany++;
            return true;
        }

        boolean addHeard(int parts, int lead, boolean level, int wet) {
            if (heardMany >= MOST_NOTED) {
                return false;
            }
            heardParts[heardMany] = parts;
            heardLead[heardMany] = lead;
            heardLevel[heardMany] = level;
            heardWet[heardMany] = wet;
            heardMany++;
            return true;
        }

        void clear() {
            seenMany = 0;
            heardMany = 0;
        }
    }

    /** The letters, and the clauses as they were read last: a word and its numbers for each. */
    private static final class Text {
        final int[] letters = new int[MOST_LETTERS];
        final int[] word = new int[MOST_CLAUSES];
        final int[] first = new int[MOST_CLAUSES];
        final int[] second = new int[MOST_CLAUSES];
        int length;
        int clauses;
        private int tokenStart;
        private int tokenEnd;
        private int partsThen;
        private int soulsThen;

        boolean add(int letter) {
            if (length >= MOST_LETTERS) {
                return false;
            }
            letters[length] = letter;
            length++;
            return true;
        }

        /** Reads all clauses, up to the first token that cannot stand there: its place, or NONE. */
        int firstFault(int partsBefore, int soulsBefore) {
            partsThen = partsBefore;
            soulsThen = soulsBefore;
            tokenEnd = 0;
            clauses = 0;
            for (int row = 0; row < MOST_CLAUSES; row++) {
                if (!readClause(row)) {
                    return tokenStart;
                }
                clauses = row + 1;
                nextToken();
                if (tokenStart >= length) {
                    return NONE;
                }
                if (letters[tokenStart] != ';') {
                    return tokenStart;
                }
            }
            return tokenStart;
        }

        private boolean readClause(int row) {
            nextToken();
            int clause = tokenWord();
            word[row] = clause;
            first[row] = 0;
            second[row] = 0;
            if (clause == NONE) {
                return false;
            }
            countPartsAndSouls(clause);
            if (partsThen > MOST_PARTS || soulsThen > MOST_SOULS) {
                return false;
            }
            if (clause == CLAUSE_KIRK) {
                return true;
            }
            nextToken();
            first[row] = tokenNumber();
            if (!isWithin(first[row], 0, mostFirst(clause))) {
                return false;
            }
            if (!isOfPart(clause)) {
                return true;
            }
            nextToken();
            second[row] = tokenNumber();
            return isWithin(second[row], 1, MOST_MINUTES);
        }

        /** Nothing is done while the text is read, but a ninth part must be known by what is ahead of it. */
        private void countPartsAndSouls(int clause) {
            if (clause == CLAUSE_KIRK) {
                partsThen = 0;
                soulsThen = 0;
            } else if (clause == CLAUSE_SOUL) {
                soulsThen++;
            } else if (isOfPart(clause)) {
                partsThen++;
            }
        }

        private static boolean isOfPart(int clause) {
            return isWithin(clause, CLAUSE_WORD, CLAUSE_PSALM);
        }

        private static int mostFirst(int clause) {
            switch (clause) {
                case CLAUSE_SOUL: return MOST_TOLD_SINS;
                case CLAUSE_THUMB: return MOST_THUMB;
                case CLAUSE_BEAM: return MOST_BEAM;
                case CLAUSE_WET: return MOST_WET;
                default: return MOST_WEIGHT;
            }
        }

        /** At the end the token is empty and begins at the length. */
        private void nextToken() {
            tokenStart = endOfRow(tokenEnd, ' ', ' ');
            tokenEnd = endOfRow(tokenStart, 'a', 'z');
            if (tokenEnd == tokenStart) {
                tokenEnd = endOfRow(tokenStart, '0', '9');
            }
            if (tokenEnd == tokenStart && tokenStart < length) {
                tokenEnd++;
            }
        }

        private int endOfRow(int start, int least, int most) {
            int at = start;
            while (at < length && isWithin(letters[at], least, most)) {
                at++;
            }
            return at;
        }

        /** The number that the token tells; NONE, if it is no number or has too many digits. */
        private int tokenNumber() {
            int digits = tokenEnd - tokenStart;
            if (digits < 1 || digits > 2 || !isWithin(letters[tokenStart], '0', '9')) {
                return NONE;
            }
            int number = 0;
            for (int at = tokenStart; at < tokenEnd; at++) {
                number = number * 10 + letters[at] - '0';
            }
            return number;
        }

        private int tokenWord() {
            for (int clause = CLAUSE_KIRK; clause <= CLAUSE_WET; clause++) {
                if (tokenIs(nameOf(clause))) {
                    return clause;
                }
            }
            return NONE;
        }

        private boolean tokenIs(String name) {
            if (name.length() != tokenEnd - tokenStart) {
                return false;
            }
            for (int i = 0; i < name.length(); i++) {
                if (letters[tokenStart + i] != name.charAt(i)) {
                    return false;
                }
            }
            return true;
        }

        private static String nameOf(int clause) {
            switch (clause) {
                case CLAUSE_KIRK: return "kirk";
                case CLAUSE_WORD: return "word";
                case CLAUSE_GREEK: return "greek";
                case CLAUSE_QUOTE: return "quote";
                case CLAUSE_PSALM: return "psalm";
                case CLAUSE_SOUL: return "soul";
                case CLAUSE_THUMB: return "thumb";
                case CLAUSE_BEAM: return "beam";
                default: return "wet";
            }
        }
    }
}
