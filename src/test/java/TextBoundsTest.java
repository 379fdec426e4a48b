/** Every boundary that Terms 1 and promises 1 to 5 name: THE TEXT, what it may tell, and what is so behind it. */
public final class TextBoundsTest {
    private static final Check C = new Check();
    private static final String EIGHT = "word 0 1;greek 1 2;quote 2 3;psalm 3 4;word 4 5;greek 5 6;quote 6 7;psalm 7 8";
    private static final String SIX = "soul 0;soul 1;soul 2;soul 3;soul 4;soul 40";
    private static final String[] KINDS = {"word", "greek", "quote", "psalm"};

    public static void main(String[] args) {
        atFirst();
        parts();
        partNumbers();
        people();
        otherNumbers();
        lettersOfTheText();
        clausesOfTheText();
        everyLetterOfEveryWord();
        emptyTexts();
        whichLettersMakeAWord();
        whichLettersMakeANumber();
        blanks();
        digits();
        tooSoon();
        clausesInTheirOrder();
        earlierTextsStay();
        behindAText();
        refusedText();
        C.end();
    }

    private static void due(String sentence, String script) {
        Script.run(C, sentence, script);
    }

    private static void atFirst() {
        due("PARTS .. none at first", "count(0)=0 part(0,0)=UNKNOWN weights(0)=UNKNOWN");
        due("nobody", "count(1)=0 sins(0)=UNKNOWN count(4)=0");
        due("THUMB (0 at first)", "count(3)=0");
        due("TREMBLES by (1 at first)", "never(0)=0 never(1)=0 never(2)=1");
        due("WET by (0 at first)", "count(10)=0 rain(0)=0");
        due("no letters at first", "count(14)=0 erase()=0");
        due("nothing kept or to undo at first", "undo()=NOT back(0)=NOT back(1)=NOT count(13)=0");
    }

    private static void parts() {
        due("PARTS, 8 at most", "'" + EIGHT + "' fault()=NONE kirk()=8 count(0)=8 part(7,1)=7 part(8,1)=UNKNOWN");
        for (String kind : KINDS) {
            due("a ninth cannot stand there, at its word", "'" + EIGHT + ";" + kind + " 1 1' fault()="
                    + (EIGHT.length() + 1) + " kirk()=NOT count(0)=0");
            due("a ninth of two texts, at its word", "'" + EIGHT + "' kirk()=8 'wet 1;" + kind
                    + "' fault()=6 kirk()=NOT count(0)=8 count(10)=0");
            due("the eighth of two texts", "'word 1 1;word 1 1;word 1 1;word 1 1;word 1 1;word 1 1;word 1 1' kirk()=7 '"
                    + kind + " 1 1' fault()=NONE kirk()=1 count(0)=8");
        }
        due("a ninth behind kirk is a first", "'" + EIGHT + ";kirk;word 1 1' fault()=NONE kirk()=10 count(0)=1");
        due("a ninth behind kirk and eight", "'kirk;" + EIGHT + ";psalm 1 1' fault()=" + (EIGHT.length() + 6));
        due("a full kirk, told another", "'" + EIGHT + "' kirk()=8 'kirk;" + EIGHT + "' fault()=NONE kirk()=9 "
                + "count(0)=8");
    }

    private static void partNumbers() {
        for (int kind = 0; kind < 4; kind++) {
            String word = KINDS[kind];
            int at = word.length() + 1;
            due("W (0 .. ), M (1 .. )", "'" + word + " 0 1' fault()=NONE kirk()=1 part(0,0)=" + kind
                    + " part(0,1)=0 part(0,2)=1");
            due("W ( .. 20), M ( .. 30)", "'" + word + " 20 30' fault()=NONE kirk()=1 part(0,0)=" + kind
                    + " part(0,1)=20 part(0,2)=30");
            due("W 21", "'" + word + " 21 1' fault()=" + at + " kirk()=NOT");
            due("W 99", "'" + word + " 99 1' fault()=" + at);
            due("M 0", "'" + word + " 20 0' fault()=" + (at + 3) + " kirk()=NOT");
            due("M 00", "'" + word + " 20 00' fault()=" + (at + 3));
            due("M 31", "'" + word + " 20 31' fault()=" + (at + 3) + " kirk()=NOT");
            due("M 99", "'" + word + " 20 99' fault()=" + (at + 3));
        }
    }

    private static void people() {
        due("PEOPLE, 6 at most", "'" + SIX + "' fault()=NONE kirk()=6 count(1)=6 sins(5)=40 sins(6)=UNKNOWN");
        due("a seventh cannot", "'" + SIX + ";soul 1' fault()=" + (SIX.length() + 1) + " kirk()=NOT count(1)=0");
        due("a seventh of two texts", "'" + SIX + "' kirk()=6 'wet 1;soul' fault()=6 kirk()=NOT count(1)=6");
        due("the sixth of two texts", "'soul 1;soul 1;soul 1;soul 1;soul 1' kirk()=5 'soul 7' kirk()=1 sins(5)=7");
        due("a seventh behind kirk is a first", "'" + SIX + ";kirk;soul 9' fault()=NONE kirk()=8 count(1)=1");
        due("a seventh behind kirk and six", "'kirk;" + SIX + ";soul 1' fault()=" + (SIX.length() + 6));
        due("parts do not fill the place of people", "'" + EIGHT + "' kirk()=8 '" + SIX + "' fault()=NONE kirk()=6");
        due("SINS (0 .. )", "'soul 0' fault()=NONE kirk()=1 sins(0)=0");
        due("SINS ( .. 40)", "'soul 40' fault()=NONE kirk()=1 sins(0)=40");
        due("SINS 41", "'soul 41' fault()=5 kirk()=NOT count(1)=0");
    }

    private static void otherNumbers() {
        due("THUMB (0 .. )", "'thumb 9' kirk()=1 'thumb 0' fault()=NONE kirk()=1 count(3)=0");
        due("THUMB ( .. 9)", "'thumb 9' fault()=NONE kirk()=1 count(3)=9");
        due("THUMB 10", "'thumb 10' fault()=6 kirk()=NOT count(3)=0");
        due("TREMBLES by (0 .. )", "'beam 0' fault()=NONE kirk()=1 never(0)=0 never(1)=1");
        due("TREMBLES by ( .. 5)", "'beam 5' fault()=NONE kirk()=1 never(5)=0 never(6)=1");
        due("TREMBLES by 6", "'beam 6' fault()=5 kirk()=NOT never(2)=1");
        due("WET by (0 .. )", "'wet 9' kirk()=1 'wet 0' fault()=NONE kirk()=1 count(10)=0");
        due("WET by ( .. 9)", "'wet 9' fault()=NONE kirk()=1 count(10)=9");
        due("WET by 10", "'wet 10' fault()=4 kirk()=NOT count(10)=0");
    }

    private static void lettersOfTheText() {
        due("write (0 .. )", "write(-1)=OUTSIDE count(14)=0 write(0)=1");
        due("write ( .. 255)", "write(256)=OUTSIDE count(14)=0 write(255)=1");
        due("160 letters at most", "write(97) ".repeat(158) + "write(97)=159 write(97)=160 write(97)=FULL "
                + "count(14)=160");
        due("OUTSIDE ahead of FULL", "write(97) ".repeat(160) + "write(-1)=OUTSIDE write(256)=OUTSIDE count(14)=160");
        String fill = " ".repeat(153);
        due("160 letters are done", "'" + fill + "thumb 7' count(14)=160 fault()=NONE kirk()=1 count(3)=7 count(14)=0");
        due("blanks up to the 160th", "'thumb 7" + fill + "' count(14)=160 fault()=NONE kirk()=1 count(3)=7");
        due("a letter refused is no letter", "'" + fill + "thumb 7' write(57)=FULL fault()=NONE kirk()=1 count(3)=7");
        due("160 letters that end too soon", "'" + fill + "thumb  ' fault()=160 kirk()=NOT count(14)=160");
        due("too soon behind the 160th", "'" + " ".repeat(152) + "thumb 7;' count(14)=160 fault()=160 kirk()=NOT");
        due("a fault in the 160th", "'" + fill + "soul 7.' fault()=159");
        due("erase() of nothing", "erase()=0 erase()=0");
        due("erase() of all", "write(97) ".repeat(160) + "erase()=160 count(14)=0 fault()=0 write(97)=1");
        due("erase() leaves what was told", "'thumb 7' kirk()=1 'soul' erase()=4 count(3)=7 count(1)=0");
    }

    private static void clausesOfTheText() {
        String thirteen = "wet 1;".repeat(13);
        due("1 CLAUSE", "'wet 3' fault()=NONE kirk()=1 count(10)=3");
        due("13 CLAUSES", "'" + "wet 1;".repeat(12) + "wet 3' fault()=NONE kirk()=13 count(10)=3");
        due("14 CLAUSES", "'" + thirteen + "wet 3' fault()=NONE kirk()=14 count(10)=3");
        due("behind the 14th no ;", "'" + thirteen + "wet 3;' fault()=83 kirk()=NOT count(10)=0");
        due("no fifteenth", "'" + thirteen + "wet 3;wet 3' fault()=83 kirk()=NOT count(10)=0");
        due("blanks behind the 14th", "'" + thirteen + "wet 3   ' fault()=NONE kirk()=14");
        due("behind the 13th a ; asks for a 14th", "'" + thirteen + "' fault()=78 kirk()=NOT");
        due("a fault in the 14th", "'" + thirteen + "wet' fault()=81 kirk()=NOT");
        due("a fault in the 1st is ahead of 15", "'wet;" + thirteen + "wet 3;wet 3' fault()=3");
        due("no ; ahead", "';wet 1' fault()=0");
        due("no two ;", "'wet 1;;wet 1' fault()=6");
        due("no clause without a ; between", "'wet 1 wet 1' fault()=6");
        due("no points", "'wet 1.' fault()=5 erase() 'kirk.' fault()=4");
        due("no word behind kirk", "'kirk word' fault()=5 erase() 'kirk 1' fault()=5");
        due("no third number", "'word 1 1 1' fault()=9 erase() 'soul 1 1' fault()=7");
        due("no word that is none", "'part 1 1' fault()=0 erase() 'wet 1;wets 1' fault()=6 erase() 'wet 1;we' "
                + "fault()=6");
        due("no number for a word", "'1' fault()=0 erase() 'wet 1;1' fault()=6");
        due("no word for a number", "'word one 1' fault()=5 erase() 'word 1 one' fault()=7 erase() 'wet wet 1' "
                + "fault()=4");
    }

    private static void everyLetterOfEveryWord() {
        for (String clause : new String[] {"kirk", "word 1 1", "greek 1 1", "quote 1 1", "psalm 1 1", "soul "
                + "1", "thumb 1",
                "beam 1", "wet 1"}) {
            due("as written here", "'" + clause + "' fault()=NONE kirk()=1");
            int letters = clause.contains(" ") ? clause.indexOf(' ') : clause.length();
            for (int at = 0; at < letters; at++) {
                String ahead = clause.substring(0, at);
                String behind = clause.substring(at + 1);
                due("another letter than written here", "'" + ahead + "x" + behind + "' fault()=0 kirk()=NOT");
                due("a letter less than written here", "'" + ahead + behind + "' fault()=0 kirk()=NOT");
                due("a letter more than written here", "'" + ahead + "x" + clause.substring(at) + "' fault()=0 "
                + "kirk()=NOT");
            }
        }
    }

    private static void emptyTexts() {
        due("an empty TEXT ends too soon", "fault()=0 kirk()=NOT");
        due("a TEXT of blanks", "'   ' fault()=3 kirk()=NOT count(14)=3");
        due("a TEXT erased", "'wet 1' erase()=5 fault()=0 kirk()=NOT count(10)=0");
        due("a TEXT done", "'wet 1' kirk()=1 fault()=0 kirk()=NOT count(10)=1");
    }

    private static void whichLettersMakeAWord() {
        due("a is of a row of small letters", "'wet 1;weta' fault()=6");
        due("z is of a row of small letters", "'wet 1;wetz' fault()=6");
        for (int letter : new int[] {'`', '{', '@', 'A', 'Z', '[', 0, 127, 128, 255}) {
            due("letter " + letter + " is no small one", "'kirk' write(" + letter + ") fault()=4 kirk()=NOT");
            due("letter " + letter + " is a token", "'wet 1;' write(" + letter + ") 'wet 1' fault()=6 kirk()=NOT");
        }
        due("no capital", "'Wet 1' fault()=0 erase() 'wEt 1' fault()=0");
    }

    private static void whichLettersMakeANumber() {
        due("0 is of a row of digits", "'wet 10' fault()=4");
        due("9 is of a row of digits", "'wet 19' fault()=4");
        due("0 .. 9 by one digit", "'thumb 0' kirk()=1 'thumb 9' kirk()=1 count(3)=9");
        for (int letter : new int[] {'/', ':', '-', '+', '.', ',', 178, 185}) {
            due("letter " + letter + " is no digit", "'wet 1' write(" + letter + ") fault()=5 kirk()=NOT");
            due("letter " + letter + " is no number", "'soul ' write(" + letter + ") fault()=5 kirk()=NOT");
            due("letter " + letter + " is no second number", "'word 1 ' write(" + letter + ") fault()=7 kirk()=NOT");
        }
        due("no sign ahead of a number", "'soul -1' fault()=5 erase() 'soul +1' fault()=5");
    }

    private static void blanks() {
        due("blanks ahead, between, behind", "'  word  1  2  ;  soul  3  ;kirk  ' fault()=NONE kirk()=3");
        for (int letter : new int[] {31, 33, 0, 9, 10, 13, 160, 255}) {
            due("letter " + letter + " is no blank", "'wet' write(" + letter + ") '1' fault()=3 kirk()=NOT");
            due("letter " + letter + " is no blank behind", "'wet 1' write(" + letter + ") fault()=5 kirk()=NOT");
            due("letter " + letter + " is no blank ahead", "write(" + letter + ") 'wet 1' fault()=0 kirk()=NOT");
        }
        due("no blank is needed", "'word1 2;soul3;kirk;wet9' fault()=NONE kirk()=4 count(10)=9");
        due("a blank between two words", "'wet1;kirkkirk' fault()=5 erase() 'kirkword 1 1' fault()=0");
        due("a blank between two numbers", "'word 11' fault()=7 erase() 'word 1 1' fault()=NONE");
        due("no blank in a word", "'ki rk' fault()=0");
        due("no blank in a number", "'soul 1 2' fault()=7");
    }

    private static void digits() {
        due("1 digit", "'soul 7' fault()=NONE kirk()=1 sins(0)=7");
        due("2 digits", "'soul 37' fault()=NONE kirk()=1 sins(0)=37");
        due("2 digits, the first 0", "'soul 07;word 00 01' fault()=NONE kirk()=2 sins(0)=7 part(0,1)=0 part(0,2)=1");
        due("3 digits", "'soul 007' fault()=5 kirk()=NOT");
        due("3 digits of 0", "'wet 000' fault()=4 kirk()=NOT");
        due("3 digits of the second number", "'word 1 001' fault()=7 kirk()=NOT");
        due("as many digits as a long wraps by", "'wet 18446744073709551617' fault()=4");
        due("as many digits as an int wraps by", "'wet 4294967297' fault()=4");
        due("160 digits", "'" + "1".repeat(160) + "' fault()=0");
        due("a row of many digits", "'wet " + "0".repeat(156) + "' fault()=4");
        due("a row of many letters", "'wet 1;" + "w".repeat(154) + "' fault()=6");
    }

    private static void tooSoon() {
        due("too soon behind a word", "'word' fault()=4 erase() 'soul' fault()=4 erase() 'wet' fault()=3");
        due("too soon behind W", "'word 1' fault()=6 erase() 'psalm1' fault()=6");
        due("too soon behind ;", "'kirk;' fault()=5");
        due("too soon behind blanks", "'word 1  ' fault()=8 erase() 'kirk;  ' fault()=7 erase() 'thumb ' fault()=6");
        due("; is a fault ahead of the end", "'word 1;' fault()=6 erase() 'wet;' fault()=3");
        due("the first fault of two", "'wet 10;thumb 10' fault()=4 erase() 'word 21 31' fault()=5");
        due("with a fault in the last clause none is done",
                "'thumb 3;soul 4;word 5 6;kirk;wet 10' fault()=33 kirk()=NOT count(3)=0 count(1)=0 count(0)=0");
    }

    private static void clausesInTheirOrder() {
        due("the later of two", "'thumb 3;thumb 4;beam 5;beam 0;wet 6;wet 7' kirk()=6 count(3)=4 never(4)=0 never(5)=1 "
                + "count(10)=7");
        due("kirk: all as at first", "'word 1 1;soul 3;thumb 4;beam 5;wet 6;kirk' kirk()=6 count(0)=0 count(1)=0 "
                + "count(3)=0 count(10)=0 never(1)=0 never(2)=1");
        due("kirk of another text", "'word 1 1;soul 3;thumb 4;beam 5;wet 6' kirk()=5 'kirk' kirk()=1 count(0)=0 "
                + "count(1)=0 count(3)=0 count(10)=0 never(1)=0 never(2)=1");
        due("beam 0 goes with kirk too", "'beam 0;kirk' kirk()=2 never(1)=0 never(2)=1");
        due("14 times kirk", "'" + "kirk;".repeat(13) + "kirk' kirk()=14 count(0)=0");
        due("PARTS as they come", "'psalm 2 3;word 4 5' kirk()=2 part(0,0)=3 part(0,1)=2 part(0,2)=3 part(1,0)=0 "
                + "part(1,1)=4 part(1,2)=5");
    }

    private static void earlierTextsStay() {
        due("parts told stay", "'word 4 5' kirk()=1 'greek 6 7' kirk()=1 count(0)=2 part(0,1)=4 part(1,1)=6");
        due("people told stay", "'soul 4' kirk()=1 'soul 6' kirk()=1 count(1)=2 sins(0)=4 sins(1)=6");
        due("thumb, beam, wet told stay", "'thumb 4;beam 0;wet 6' kirk()=3 'soul 1' kirk()=1 count(3)=4 never(4)=0 "
                + "never(5)=1 count(10)=6");
    }

    private static void behindAText() {
        String begun = "'word 5 6;soul 20;wet 3' kirk()=3 ";
        String text = " 'thumb 0' kirk()=1 ";
        due("it is SUNDAY 0", begun + "sunday() sunday() count(2)=2" + text + "count(2)=0");
        due("no MINUTES", begun + "preach(0) count(7)=6" + text + "count(7)=0");
        due("no SUNDAYS are counted", begun + "ballast(20) sunday()=1 count(8)=1" + text + "count(8)=0");
        due("nothing is PREACHED", begun + "preach(0) count(6)=1" + text + "count(6)=0 part(0,4)=0 preach(0)=9984");
        due("SINS as told, when more", begun + "sin(0,5)=25" + text + "sins(0)=20");
        due("SINS as told, when halved", begun + "sunday()=0 sins(0)=10" + text + "sins(0)=20");
        due("SINS as told, when none", begun + "ballast(20) sunday()=1 sins(0)=0" + text + "sins(0)=20");
        due("WET as told, when rained upon", begun + "rain(9)=3" + text + "count(10)=3");
        due("WET as told anew", begun + "rain(9)=3 'wet 4' kirk()=1 count(10)=4");
        due("no BALLAST is paid", begun + "ballast(9)" + text + "count(9)=0 count(4)=20");
        due("nothing is SEEN", begun + "seen(1,0,7) weights(0)=128" + text + "count(11)=0 weights(0)=2097151");
        due("nothing is HEARD", begun + "heard(1,7,1) thumbs()=14" + text + "count(12)=0 thumbs()=1023");
        due("nothing is kept", begun + "keep(0) keep(1) back(0)=0" + text + "back(0)=NOT back(1)=NOT");
        due("nothing can be undone", begun + "rain(1) rain(2) count(13)=2" + text + "count(13)=0 undo()=NOT");
    }

    private static void refusedText() {
        due("a refused kirk() leaves all", "'word 5 6;soul 20;wet 3' kirk()=3 sunday() sin(0,7) preach(0) ballast(2) "
                + "rain(8) seen(1,0,7) heard(1,7,1) keep(0) 'kirk;wet 10' fault()=9 kirk()=NOT count(0)=1 count(1)=1 "
                + "count(2)=1 count(6)=1 count(7)=6 count(9)=2 count(10)=8 count(11)=1 count(12)=1 count(13)=5 "
                + "count(14)=11 sins(0)=17 back(0)=1");
        due("fault() leaves all", "'wet 3;kirk' fault()=NONE fault()=NONE count(10)=0 count(14)=10 kirk()=2");
    }
}
