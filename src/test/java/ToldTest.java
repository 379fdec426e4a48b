/** Promises 1 to 8: what is told. */
public final class ToldTest {
    private static final Check C = new Check();

    public static void main(String[] args) {
        newObject();
        writeAndErase();
        faultsOfTokens();
        faultsOfNumbers();
        faultsOfRoom();
        kirkDoesClauses();
        kirkBeginsAnew();
        partAnswers();
        sinsAnswer();
        asAnswers();
        C.end();
    }

    private static void newObject() {
        C.due("NONE", SermonScale.NONE, -1);
        C.due("UNKNOWN", SermonScale.UNKNOWN, -2);
        C.due("OUTSIDE", SermonScale.OUTSIDE, -3);
        C.due("NOT", SermonScale.NOT, -4);
        C.due("FULL", SermonScale.FULL, -5);
        SermonScale x = new SermonScale();
        for (int what = 0; what <= 14; what++) {
            C.due("new count(" + what + ")", x.count(what), what == 5 ? 1 : 0);
        }
        C.due("new beam trembles by 1: never(1)", x.never(1), 0);
        C.due("new beam trembles by 1: never(2)", x.never(2), 1);
    }

    private static void writeAndErase() {
        SermonScale x = new SermonScale();
        C.due("erase() of nothing", x.erase(), 0);
        C.due("write(-1)", x.write(-1), Check.OUTSIDE);
        C.due("write(256)", x.write(256), Check.OUTSIDE);
        C.due("write(least int)", x.write(Integer.MIN_VALUE), Check.OUTSIDE);
        C.due("write(0)", x.write(0), 1);
        C.due("write(255)", x.write(255), 2);
        C.due("erase()", x.erase(), 2);
        C.due("letters behind erase()", x.count(14), 0);
        for (int i = 1; i <= 160; i++) {
            C.due("write " + i, x.write('a'), i);
        }
        C.due("write 161", x.write('a'), Check.FULL);
        C.due("write(256) when full", x.write(256), Check.OUTSIDE);
        C.due("letters when full", x.count(14), 160);
        C.due("fault() when full", x.fault(), 0);
        C.due("erase() when full", x.erase(), 160);
        C.due("write behind erase", x.write('k'), 1);
    }

    private static void faultsOfTokens() {
        C.faultDue("", 0);
        C.faultDue("   ", 3);
        C.faultDue("kirk", Check.NONE);
        C.faultDue("  kirk  ", Check.NONE);
        C.faultDue("kirk;", 5);
        C.faultDue("kirk; ", 6);
        C.faultDue(";kirk", 0);
        C.faultDue("kirk;;kirk", 5);
        C.faultDue("kirk ;kirk", Check.NONE);
        C.faultDue("kirk kirk", 5);
        C.faultDue("kirkword 1 1", 0);
        C.faultDue("kir", 0);
        C.faultDue("kirks", 0);
        C.faultDue("dirk", 0);
        C.faultDue("Kirk", 0);
        C.faultDue("part 3 4", 0);
        C.faultDue("kirk 3", 5);
        C.faultDue("kirk.", 4);
        C.faultDue("kirk\n", 4);
        C.faultDue("kirk" + (char) 255, 4);
        C.faultDue("kirk" + (char) 0, 4);
        C.faultDue("3", 0);
        C.faultDue("word", 4);
        C.faultDue("word 3", 6);
        C.faultDue("word 3  ", 8);
        C.faultDue("word 3;", 6);
        C.faultDue("word x", 5);
        C.faultDue("word 3 x", 7);
        C.faultDue("word 3 4 5", 9);
        C.faultDue("word3 4", Check.NONE);
        C.faultDue("word3 4;soul5;thumb9", Check.NONE);
        C.faultDue("word 3 4soul 5", 8);
        C.faultDue("soul;", 4);
        C.faultDue("soul -1", 5);
        C.faultDue("thumb", 5);
        C.faultDue("beam ", 5);
        C.faultDue("wet", 3);
        C.faultDue("wet 1 2", 6);
    }

    private static void faultsOfNumbers() {
        for (String word : new String[] {"word", "greek", "quote", "psalm"}) {
            int at = word.length() + 1;
            C.faultDue(word + " 0 1", Check.NONE);
            C.faultDue(word + " 20 30", Check.NONE);
            C.faultDue(word + " 21 1", at);
            C.faultDue(word + " 20 31", at + 3);
            C.faultDue(word + " 20 0", at + 3);
            C.faultDue(word + " 12", at + 2);
            C.faultDue(word + " 00 01", Check.NONE);
            C.faultDue(word + " 001 1", at);
            C.faultDue(word + " 1 001", at + 2);
            C.faultDue(word + " 4294967297 1", at);
        }
        C.faultDue("soul 0", Check.NONE);
        C.faultDue("soul 40", Check.NONE);
        C.faultDue("soul 41", 5);
        C.faultDue("thumb 0", Check.NONE);
        C.faultDue("thumb 9", Check.NONE);
        C.faultDue("thumb 10", 6);
        C.faultDue("beam 0", Check.NONE);
        C.faultDue("beam 5", Check.NONE);
        C.faultDue("beam 6", 5);
        C.faultDue("wet 0", Check.NONE);
        C.faultDue("wet 09", Check.NONE);
        C.faultDue("wet 10", 4);
    }

    private static void faultsOfRoom() {
        String eight = "word 1 1;greek 1 1;quote 1 1;psalm 1 1;".repeat(2);
        C.faultDue(eight + "kirk", Check.NONE);
        C.faultDue(eight + "psalm 99 99", eight.length());
        C.faultDue(eight + "kirk;word 1 1", Check.NONE);
        String six = "soul 1;".repeat(6);
        C.faultDue(six + "wet 1", Check.NONE);
        C.faultDue(six + " soul", six.length() + 1);
        C.faultDue(six + "kirk;soul 1", Check.NONE);
        String thirteen = "wet 1;".repeat(13);
        C.faultDue(thirteen + "wet 1", Check.NONE);
        C.faultDue(thirteen + "wet 1 ;", thirteen.length() + 6);
        C.faultDue(thirteen + "wet 1;wet 1", thirteen.length() + 5);
        C.faultDue(thirteen, thirteen.length());
        SermonScale x = Check.told("word 1 1;word 1 1;word 1 1;word 1 1;soul 1;soul 1;soul 1");
        Check.put(x, "quote 1 1;quote 1 1;quote 1 1;quote 1 1;quote 1 1");
        C.due("fault() at the ninth of two texts", x.fault(), 40);
        C.due("kirk() at the ninth of two texts", x.kirk(), Check.NOT);
        C.due("parts behind a refused kirk()", x.count(0), 4);
        x.erase();
        Check.put(x, "soul 1;soul 1;soul 1;soul 1");
        C.due("fault() at the seventh of two texts", x.fault(), 21);
        x.erase();
        Check.put(x, "kirk;soul 1;soul 1;soul 1;soul 1");
        C.due("fault() with kirk ahead", x.fault(), Check.NONE);
        C.faultDue("kirk;" + eight + "thumb 1", Check.NONE);
        C.faultDue("kirk;" + six + "thumb 1", Check.NONE);
    }

    private static void kirkDoesClauses() {
        SermonScale x = new SermonScale();
        C.due("kirk() of nothing", x.kirk(), Check.NOT);
        C.due("one clause", Check.tell(x, "thumb 7"), 1);
        C.due("thumb told", x.count(3), 7);
        C.due("14 clauses", Check.tell(x, "thumb 1;thumb 2;thumb 3;thumb 4;thumb 5;thumb 6;"
                + "thumb 7;thumb 8;thumb 9;thumb 1;thumb 2;thumb 3;thumb 4;thumb 5"), 14);
        C.due("the latest thumb", x.count(3), 5);
        C.due("wet told", Check.tell(x, "wet 4;soul 30;beam 3;greek 10 9"), 4);
        C.due("wet", x.count(10), 4);
        C.due("lead", x.count(4), 30);
        C.due("thumb of an earlier text stays", x.count(3), 5);
        C.due("another text", Check.tell(x, "soul 9;psalm 3 7"), 2);
        C.due("parts of both texts", x.count(0), 2);
        C.due("people of both texts", x.count(1), 2);
        C.due("lead of both texts", x.count(4), 39);
        C.due("beam of the earlier text: never(8)", x.never(8), 0);
        C.due("beam of the earlier text: never(9)", x.never(9), 1);
        C.due("kirk in the middle", Check.tell(x, "soul 1;kirk;soul 2;word 5 5"), 4);
        C.due("parts behind kirk", x.count(0), 1);
        C.due("people behind kirk", x.count(1), 1);
        C.due("lead behind kirk", x.count(4), 2);
        C.due("thumb behind kirk", x.count(3), 0);
        C.due("wet behind kirk", x.count(10), 0);
        C.due("beam behind kirk: never(1)", x.never(1), 0);
        C.due("beam behind kirk: never(2)", x.never(2), 1);
        C.due("part behind kirk", x.part(0, 1), 5);
    }

    private static void kirkBeginsAnew() {
        SermonScale x = Check.told("word 5 6;word 7 8;soul 20;soul 30;wet 3");
        x.preach(0);
        x.sunday();
        x.sin(0, 9);
        x.ballast(4);
        x.rain(8);
        x.preach(1);
        x.sunday();
        x.ballast(20);
        x.sunday();
        C.due("a level Sunday", x.count(8), 1);
        x.ballast(3);
        x.sin(0, 20);
        x.preach(0);
        x.seen(1, 0, 5);
        x.heard(1, 5, 1);
        x.keep(0);
        x.keep(1);
        C.due("kirk()", Check.tell(x, "thumb 1"), 1);
        int[] want = {2, 2, 0, 1, 50, 0, 0, 0, 0, 0, 3, 0, 0, 0, 0};
        for (int what = 0; what <= 14; what++) {
            C.due("count(" + what + ") behind a text", x.count(what), want[what]);
        }
        C.due("sins(0) as told", x.sins(0), 20);
        C.due("sins(1) as told", x.sins(1), 30);
        C.due("undo() behind a text", x.undo(), Check.NOT);
        C.due("back(0) behind a text", x.back(0), Check.NOT);
        C.due("back(1) behind a text", x.back(1), Check.NOT);
        C.due("weights(0) behind a text", x.weights(0), (1 << 21) - 1);
        C.due("thumbs() behind a text", x.thumbs(), 1023);
    }

    private static void partAnswers() {
        SermonScale x = Check.told("word 9 1;greek 7 2;quote 15 3;psalm 20 30;wet 4;soul 40");
        int[][] want = {{0, 9, 1, 9, 0}, {1, 7, 2, 11, 0}, {2, 15, 3, 7, 0}, {3, 20, 30, 0, 0}};
        for (int part = 0; part < 4; part++) {
            for (int what = 0; what <= 4; what++) {
                C.due("part(" + part + ", " + what + ")", x.part(part, what), want[part][what]);
            }
            C.due("part(" + part + ", 5)", x.part(part, 5), Check.OUTSIDE);
            C.due("part(" + part + ", -1)", x.part(part, -1), Check.OUTSIDE);
        }
        C.due("part(4, 0)", x.part(4, 0), Check.UNKNOWN);
        C.due("part(-1, 0)", x.part(-1, 0), Check.UNKNOWN);
        C.due("part(8, 9)", x.part(8, 9), Check.UNKNOWN);
        x.rain(9);
        x.preach(1);
        C.due("greek in the rain", x.part(1, 3), 16);
        C.due("greek's W in the rain", x.part(1, 1), 7);
        C.due("word in the rain", x.part(0, 3), 9);
        C.due("quote in the rain", x.part(2, 3), 7);
        C.due("psalm in the rain", x.part(3, 3), 0);
        C.due("preached", x.part(1, 4), 1);
        C.due("not preached", x.part(0, 4), 0);
    }

    private static void sinsAnswer() {
        SermonScale x = Check.told("soul 0;soul 40");
        C.due("sins(0)", x.sins(0), 0);
        C.due("sins(1)", x.sins(1), 40);
        C.due("sins(2)", x.sins(2), Check.UNKNOWN);
        C.due("sins(-1)", x.sins(-1), Check.UNKNOWN);
        C.due("sins(6)", x.sins(6), Check.UNKNOWN);
    }

    private static void asAnswers() {
        SermonScale x = Check.told("word 9 1;greek 7 2;quote 15 3;psalm 20 30;wet 4");
        int no = Check.NOT;
        int[][] want = {{9, 9, no, no, no}, {16, 16, 16, no, no}, {7, 7, no, 7, no}, {0, no, no, no, 0}};
        for (int part = 0; part < 4; part++) {
            for (int kind = 0; kind <= 4; kind++) {
                C.due("as(" + part + ", " + kind + ")", x.as(part, kind), want[part][kind]);
            }
            C.due("as(" + part + ", 5)", x.as(part, 5), Check.OUTSIDE);
            C.due("as(" + part + ", -1)", x.as(part, -1), Check.OUTSIDE);
        }
        C.due("as(4, 0)", x.as(4, 0), Check.UNKNOWN);
        C.due("as(-1, 9)", x.as(-1, 9), Check.UNKNOWN);
    }
}
