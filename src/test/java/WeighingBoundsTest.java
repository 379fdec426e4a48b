/** Every boundary that Terms 2 and promises 6 to 16 name: what parts weigh, what is done, undone and kept. */
public final class WeighingBoundsTest {
    private static final Check C = new Check();
    private static final String SIX = "soul 40;soul 40;soul 40;soul 40;soul 40;soul 40";

    public static void main(String[] args) {
        ounces();
        sermonAndLead();
        hangsLevel();
        partAndSins();
        takenAs();
        preached();
        howMuchMore();
        sinned();
        ballast();
        rain();
        sundayOver();
        sunday999();
        undone();
        undoneOfEach();
        kept();
        C.end();
    }

    private static void due(String sentence, String script) {
        Script.run(C, sentence, script);
    }

    private static void ounces() {
        due("of a WORD W", "'word 0 1;word 20 1;wet 9' kirk()=3 part(0,3)=0 part(1,3)=20");
        due("of a GREEK one as of a WORD", "'greek 0 1;greek 20 1' kirk()=2 part(0,3)=0 part(1,3)=20");
        due("and as much more as it is WET", "'greek 0 1;greek 20 1;wet 9' kirk()=3 part(0,3)=9 part(1,3)=29 rain(1) "
                + "part(0,3)=1 part(1,3)=21");
        due("of a QUOTE half of a WORD's (cut)", "'quote 0 1;quote 1 1;quote 2 1;quote 19 1;quote 20 1;wet 9' kirk()=6 "
                + "part(0,3)=0 part(1,3)=0 part(2,3)=1 part(3,3)=9 part(4,3)=10");
        due("of a PSALM none", "'psalm 0 1;psalm 20 1;wet 9' kirk()=3 part(0,3)=0 part(1,3)=0");
    }

    private static void sermonAndLead() {
        due("the SERMON of nothing PREACHED is the THUMB", "'thumb 9;word 5 1;soul 40' kirk()=3 count(3)=9 preach(0) "
                + "count(3)=14");
        due("the SERMON of no THUMB and nothing", "count(3)=0");
        due("the SERMON of all PARTS", "'greek 20 1;greek 20 1;greek 20 1;greek 20 1;greek 20 1;greek 20 1;greek 20 1;"
                + "greek 20 1;wet 9;thumb 9' kirk()=10 preach(0) preach(1) preach(2) preach(3) preach(4) preach(5) "
                + "preach(6) preach(7) count(3)=241 count(6)=255");
        due("the LEAD of nobody", "count(4)=0 ballast(20)=20 count(4)=0");
        due("the LEAD, 0 at least", "'soul 10' kirk()=1 ballast(9) count(4)=1 ballast(1) count(4)=0 ballast(1) "
                + "count(4)=0 sin(0,1) count(4)=0 sin(0,1) count(4)=1");
        due("the LEAD of all PEOPLE", "'" + SIX + "' kirk()=6 count(4)=240 sin(0,20) sin(0,20) sin(0,20) sin(5,1) "
                + "count(4)=300");
    }

    private static void hangsLevel() {
        for (int beam = 0; beam <= 5; beam++) {
            String text = "'beam " + beam + ";thumb 3;soul ";
            String over = "'beam " + beam + ";soul 2;thumb ";
            due("no more than it TREMBLES, the LEAD more", text + (3 + beam) + "' kirk()=3 count(5)=1 stops()=0 "
                + "sunday()=1");
            due("one more than it TREMBLES, the LEAD more", text + (4 + beam)
                    + "' kirk()=3 count(5)=0 stops()=NONE sunday()=0");
            due("no more than it TREMBLES, the SERMON more", over + (2 + beam) + "' kirk()=3 count(5)=1 sunday()=1");
            due("one more than it TREMBLES, the SERMON more", over + (3 + beam) + "' kirk()=3 count(5)=0 sunday()=0");
        }
        due("nothing against nothing", "'beam 0' kirk()=1 count(5)=1 stops()=0");
    }

    private static void partAndSins() {
        due("part(), what (0 .. 4)", "'quote 15 30;soul 40' kirk()=2 part(0,-1)=OUTSIDE part(0,0)=2 part(0,1)=15 "
                + "part(0,2)=30 part(0,3)=7 part(0,4)=0 part(0,5)=OUTSIDE preach(0) part(0,4)=1");
        due("part() of the first and the last", "'word 1 2;word 3 4' kirk()=2 part(-1,1)=UNKNOWN part(0,1)=1 "
                + "part(1,1)=3 part(2,1)=UNKNOWN");
        due("sins() of the first and the last", "'soul 1;soul 3' kirk()=2 sins(-1)=UNKNOWN sins(0)=1 sins(1)=3 "
                + "sins(2)=UNKNOWN");
    }

    private static void takenAs() {
        String all = "'word 9 1;greek 9 1;quote 9 1;psalm 9 1' kirk()=4 ";
        due("as() of the first and the last", all + "as(-1,0)=UNKNOWN as(0,0)=9 as(3,0)=0 as(4,0)=UNKNOWN");
        due("KIND (0 .. 4)", all + "as(0,-1)=OUTSIDE as(0,0)=9 as(3,4)=0 as(3,5)=OUTSIDE");
        due("PART (0): all", all + "as(0,0)=9 as(1,0)=18 as(2,0)=4 as(3,0)=0");
        due("WORD (1) under it, GREEK and QUOTE are WORD", all + "as(0,1)=9 as(1,1)=18 as(2,1)=4 as(3,1)=NOT");
        due("GREEK (2)", all + "as(0,2)=NOT as(1,2)=18 as(2,2)=NOT as(3,2)=NOT");
        due("QUOTE (3)", all + "as(0,3)=NOT as(1,3)=NOT as(2,3)=4 as(3,3)=NOT");
        due("PSALM (4) is a PART", all + "as(0,4)=NOT as(1,4)=NOT as(2,4)=NOT as(3,4)=0");
        due("were it WET by 9, however WET it is", all + "rain(0) as(1,2)=18 rain(9) as(1,1)=18 part(1,3)=18 "
                + "count(10)=9");
        due("the lightest and the heaviest", "'greek 0 1;greek 20 1' kirk()=2 as(0,0)=9 as(1,2)=29");
    }

    private static void preached() {
        String text = "'word 5 6;word 7 30;soul 40' kirk()=3 ";
        due("the first and the last PART", text + "preach(-1)=UNKNOWN preach(0)=9964 preach(1)=9971 preach(2)=UNKNOWN");
        due("once a SUNDAY", text + "preach(0)=9964 preach(0)=NOT count(6)=1 count(7)=6 count(13)=1");
        due("and once the next SUNDAY", text + "preach(0) sunday() preach(0)=9984 preach(0)=NOT count(7)=12");
        due("as long as it does not HANG LEVEL", "'word 5 6;word 1 1;word 1 1;soul 7' kirk()=4 preach(0)=9997 "
                + "preach(1)=9998 preach(2)=NOT count(6)=3 count(7)=7");
        due("not when it HANGS LEVEL with nothing PREACHED", "'word 5 6' kirk()=1 preach(0)=NOT count(7)=0 "
                + "count(13)=0");
        due("when the SERMON is too much, too", "'word 5 6;thumb 2' kirk()=2 preach(0)=10006");
        due("MINUTES (1 .. 30) go by", "'psalm 0 1;psalm 0 30;soul 2' kirk()=3 preach(0) count(7)=1 preach(1) "
                + "count(7)=31");
        due("MINUTES of all SUNDAYS", text + "preach(1) sunday() preach(0) count(7)=36 sunday() count(7)=36");
    }

    private static void howMuchMore() {
        String sin = "sin(0,20) sin(1,20) sin(2,20) sin(3,20) sin(4,20) sin(5,20) ".repeat(3);
        due("as far below as can be", "'psalm 20 1;" + SIX + "' kirk()=7 " + sin + "count(4)=594 preach(0)=9405");
        due("as far above as can be", "'greek 20 1;greek 20 1;greek 20 1;greek 20 1;greek 20 1;greek 20 1;greek 20 1;"
                + "greek 20 1;wet 9;thumb 9' kirk()=10 preach(0)=10037 preach(1) preach(2) preach(3) preach(4) "
                + "preach(5) preach(6) preach(7)=10240");
        due("neither above nor below", "'word 5 1;soul 5' kirk()=2 preach(0)=9999");
    }

    private static void sinned() {
        due("s (1 .. 20)", "'soul 5' kirk()=1 sin(0,0)=OUTSIDE sin(0,21)=OUTSIDE sins(0)=5 sin(0,1)=6 sin(0,20)=26");
        due("the first and the last of PEOPLE", "'soul 5;soul 6' kirk()=2 sin(-1,1)=UNKNOWN sin(0,1)=6 sin(1,1)=7 "
                + "sin(2,1)=UNKNOWN");
        due("99 at most", "'soul 38' kirk()=1 sin(0,20)=58 sin(0,20)=78 sin(0,20)=98 sin(0,1)=99 sin(0,1)=99 "
                + "sins(0)=99 count(4)=99");
        due("99 at most, at once", "'soul 39' kirk()=1 sin(0,20) sin(0,20) sin(0,20)=99 sin(0,20)=99 count(13)=4");
        due("99 at most, from 98", "'soul 38' kirk()=1 sin(0,20) sin(0,20) sin(0,20)=98 sin(0,20)=99 undo()=3 "
                + "sins(0)=98");
    }

    private static void ballast() {
        String most = "'soul 40;soul 40;soul 40' kirk()=3 ballast(20)=20 ballast(20)=40 ballast(20)=60 ballast(20)=80 ";
        due("b (1 .. 20)", "ballast(0)=OUTSIDE ballast(21)=OUTSIDE count(9)=0 ballast(1)=1 ballast(20)=21 count(9)=21");
        due("99 in all at most", most + "ballast(18)=98 count(4)=22 ballast(1)=99 count(4)=21 ballast(1)=99 "
                + "count(4)=21");
        due("99 at once", most + "ballast(19)=99 count(9)=99 count(4)=21");
        due("what would be above is not taken, the rest of b is", most + "ballast(20)=99 count(9)=99 count(4)=21 "
                + "undo()=4 count(9)=80");
        due("more than the LEAD is taken, too", "'soul 5' kirk()=1 ballast(20)=20 count(9)=20 count(4)=0");
        due("99 a SUNDAY", most + "ballast(20)=99 sunday() count(9)=0 ballast(20)=20");
    }

    private static void rain() {
        due("RAIN (0 .. 9)", "rain(-1)=OUTSIDE rain(10)=OUTSIDE count(10)=0 rain(9)=0 count(10)=9 rain(0)=9 "
                + "count(10)=0");
        due("RAIN by the same number", "'wet 4' kirk()=1 rain(4)=4 count(10)=4 count(13)=1");
        due("RAIN on what is PREACHED", "'greek 5 1;soul 40' kirk()=2 preach(0) count(3)=5 rain(9) count(3)=14 "
                + "part(0,3)=14");
    }

    private static void sundayOver() {
        due("each is half of what it was (cut)", "'soul 0;soul 1;soul 2;soul 3;soul 40;soul 39' kirk()=6 sin(4,20) "
                + "sin(4,20) sin(4,20) sins(4)=99 sunday()=0 sins(0)=0 sins(1)=0 sins(2)=1 sins(3)=1 sins(4)=49 "
                + "sins(5)=19");
        due("if it HANGS LEVEL, all SINS are 0", "'soul 40;soul 1;thumb 1' kirk()=3 ballast(20) ballast(19) count(5)=1 "
                + "sunday()=1 sins(0)=0 sins(1)=0");
        due("level by as much as it TREMBLES", "'soul 40;thumb 9;beam 5' kirk()=3 ballast(20) ballast(6) sunday()=1");
        due("not level by one more", "'soul 40;thumb 9;beam 5' kirk()=3 ballast(20) ballast(5) sunday()=0 sins(0)=20");
        due("SUNDAYS on which it HUNG LEVEL", "'soul 5;thumb 1' kirk()=2 sunday()=0 count(8)=0 sunday()=1 count(8)=1 "
                + "sunday()=1 count(8)=2 count(2)=3");
        due("no BALLAST, nothing PREACHED, the next SUNDAY", "'word 1 1;soul 40' kirk()=2 preach(0) ballast(5) "
                + "sunday()=0 count(9)=0 count(6)=0 part(0,4)=0 count(2)=1 count(4)=20");
        due("as WET as it was", "'wet 9' kirk()=1 sunday() count(10)=9 rain(2) sunday() count(10)=2");
        due("a SUNDAY of nobody", "sunday()=1 count(2)=1 count(8)=1 count(13)=1");
    }

    /** 512 calls do not reach it, and nothing is promised behind them: this holds it to its sentence all the same. */
    private static void sunday999() {
        due("FULL: it is SUNDAY 999", "sunday() ".repeat(998) + "count(2)=998 sunday()=1 count(2)=999 count(8)=999 "
                + "count(13)=8 sunday()=FULL sunday()=FULL count(2)=999 count(8)=999 count(13)=8 undo()=7 count(2)=998 "
                + "sunday()=1 sunday()=FULL keep(0)=999 back(0)=999 sunday()=FULL undo()=NOT");
    }

    private static void undone() {
        due("NOT: none", "undo()=NOT count(13)=0");
        due("how many can be undone yet", "rain(1) rain(2) rain(3) count(13)=3 undo()=2 count(10)=2 undo()=1 undo()=0 "
                + "count(10)=0 undo()=NOT count(10)=0");
        due("7 can be", "rain(1) rain(2) rain(3) rain(4) rain(5) rain(6) rain(7) count(13)=7 undo()=6");
        due("the last 8 can be", "rain(1) rain(2) rain(3) rain(4) rain(5) rain(6) rain(7) rain(8) count(13)=8 undo()=7 "
                + "undo()=6 undo()=5 undo()=4 undo()=3 undo()=2 undo()=1 undo()=0 count(10)=0 undo()=NOT");
        due("a ninth cannot be", "rain(1) rain(2) rain(3) rain(4) rain(5) rain(6) rain(7) rain(8) rain(9) count(13)=8 "
                + "undo()=7 undo()=6 undo()=5 undo()=4 undo()=3 undo()=2 undo()=1 undo()=0 count(10)=1 undo()=NOT "
                + "count(10)=1");
        due("the last 8 of 20", "rain(0) ".repeat(11) + "rain(1) rain(2) rain(3) rain(4) rain(5) rain(6) rain(7) "
                + "rain(8) rain(9) undo()=7 undo()=6 undo()=5 undo()=4 undo()=3 undo()=2 undo()=1 undo()=0 "
                + "count(10)=1 undo()=NOT");
        due("8 again behind some undone", "rain(1) ".repeat(8) + "undo()=7 undo()=6 undo()=5 rain(2) count(13)=6 "
                + "rain(3) rain(4) rain(5) count(13)=8 undo()=7 count(10)=4 undo()=6 undo()=5 undo()=4 count(10)=1");
    }

    private static void undoneOfEach() {
        String text = "'word 5 6;greek 7 8;soul 40;soul 9;thumb 1;wet 2' kirk()=6 ";
        due("preach() undone", text + "preach(1) undo()=0 count(6)=0 count(7)=0 count(3)=1 part(1,4)=0 preach(1)=9960");
        due("sin() undone", text + "sin(1,7) undo()=0 sins(1)=9 sins(0)=40");
        due("ballast() undone", text + "ballast(3) undo()=0 count(9)=0 count(4)=49");
        due("rain() undone", text + "rain(8) undo()=0 count(10)=2 part(1,3)=9");
        due("sunday() undone, not level", text + "preach(0) ballast(4) sunday()=0 undo()=2 count(2)=0 count(6)=1 "
                + "count(9)=4 sins(0)=40 sins(1)=9 count(7)=6");
        due("sunday() undone, level", "'soul 9;thumb 9' kirk()=2 sunday()=1 undo()=0 sins(0)=9 count(8)=0 count(2)=0");
        due("a sin() by which nothing became other", "'soul 39' kirk()=1 sin(0,20) sin(0,20) sin(0,20)=99 sin(0,1)=99 "
                + "count(13)=4 undo()=3 sins(0)=99 undo()=2 sins(0)=79");
        due("a ballast() by which nothing became other", "ballast(20) ballast(20) ballast(20) ballast(20) "
                + "ballast(20)=99 ballast(1)=99 count(13)=6 undo()=5 count(9)=99 undo()=4 count(9)=80");
        due("a rain() by which nothing became other", "rain(5) rain(5) count(13)=2 undo()=1 count(10)=5 undo()=0 "
                + "count(10)=0");
        due("what is refused cannot be undone", text + "preach(2)=UNKNOWN sin(2,1)=UNKNOWN sin(0,0)=OUTSIDE "
                + "ballast(0)=OUTSIDE rain(10)=OUTSIDE count(13)=0 preach(0) preach(0)=NOT count(13)=1");
        due("what tells nothing of the week cannot be undone", text + "keep(0) seen(1,0,5) heard(1,5,1) forget() "
                + "stops() soonest(0) never(5) confessed(5,0) 'wet 1' erase() fault() count(13)=0 undo()=NOT");
        due("undo() leaves THE TEXT, SEEN, HEARD, what is kept", text + "rain(7) 'wet' seen(1,0,5) heard(1,5,1) "
                + "keep(0) undo()=0 count(14)=3 count(11)=1 count(12)=1 back(0)=0 count(10)=7");
    }

    private static void kept() {
        String text = "'word 5 6;soul 40;soul 9;wet 2' kirk()=4 ";
        due("keep (k 0, 1)", "keep(-1)=UNKNOWN keep(0)=0 keep(1)=0 keep(2)=UNKNOWN");
        due("back (k 0, 1)", "keep(0) keep(1) back(-1)=UNKNOWN back(0)=0 back(1)=0 back(2)=UNKNOWN");
        due("NOT: nothing was kept", "back(0)=NOT back(1)=NOT keep(1)=0 back(0)=NOT back(1)=0");
        due("NOT: nothing was kept since the last text", "keep(0) keep(1) 'wet 1' kirk()=1 back(0)=NOT back(1)=NOT "
                + "keep(0)=0 back(0)=0 back(1)=NOT");
        due("a text that is not done leaves what is kept", "rain(4) keep(0) 'wet' kirk()=NOT rain(5) back(0)=0 "
                + "count(10)=4");
        due("0 and 1 are two", "rain(3) keep(0) rain(4) keep(1) rain(5) back(0) count(10)=3 back(1) count(10)=4 "
                + "back(0) count(10)=3");
        due("the SUNDAY", text + "sunday() keep(0)=1 sunday() keep(1)=2 sunday() back(0)=1 count(2)=1 back(1)=2 "
                + "count(2)=2");
        due("all as it is is kept", text + "sunday() preach(0) sin(1,7) ballast(4) rain(8) keep(0)=1 rain(0) "
                + "ballast(5) sin(0,1) sunday() back(0)=1 count(2)=1 count(3)=5 count(4)=27 count(6)=1 count(7)=6 "
                + "count(8)=0 count(9)=4 count(10)=8 sins(0)=20 sins(1)=11");
        due("SUNDAYS that HUNG LEVEL are kept", "sunday() keep(0)=1 sunday() count(8)=2 back(0)=1 count(8)=1");
        due("but THE TEXT, SEEN, HEARD", text + "keep(0) 'wet' seen(1,0,5) seen(0,0,0) heard(1,5,1) back(0) "
                + "count(14)=3 count(11)=2 count(12)=1 forget()=3 back(0) count(11)=0 count(12)=0");
        due("but what can be undone", text + "rain(5) keep(0) rain(6) count(13)=2 back(0)=0 count(13)=0 undo()=NOT "
                + "count(10)=5");
        due("keep() leaves what can be undone", text + "rain(5) rain(6) keep(0) count(13)=2 undo()=1 count(10)=5");
        due("kept over", "rain(3) keep(0) rain(4) keep(0) rain(5) back(0) count(10)=4");
        due("back() twice", "rain(3) keep(0) rain(4) back(0)=0 rain(5) back(0)=0 count(10)=3 count(13)=0");
        due("undo() behind back()", "rain(3) keep(0) back(0) rain(4) undo()=0 count(10)=3 undo()=NOT");
    }
}
