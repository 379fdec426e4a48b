/** Every boundary that Terms 3 and promises 17 to 26 name: what is foretold, seen, heard, confessed and counted. */
public final class ForeseenBoundsTest {
    private static final Check C = new Check();
    private static final String EIGHT = "word 1 1;word 1 1;word 1 1;word 1 1;word 1 1;word 1 1;word 1 1;word 1 1";
    private static final String SIX = "soul 1;soul 1;soul 1;soul 1;soul 1;soul 1";
    private static final int ALL_WEIGHTS = 2097151;
    private static final int ALL_THUMBS = 1023;

    public static void main(String[] args) {
        stops();
        soonest();
        soonestOfSeveral();
        never();
        seen();
        heard();
        forget();
        weights();
        thumbs();
        confessed();
        lowestTerms();
        count();
        C.end();
    }

    private static void due(String sentence, String script) {
        Script.run(C, sentence, script);
    }

    private static void stops() {
        due("0: it does now", "stops()=0 'word 5 1' kirk()=1 stops()=0");
        due("0: it does now, all PREACHED", "'word 5 1;soul 5' kirk()=2 preach(0) stops()=0");
        due("none, with no PARTS", "'soul 9' kirk()=1 stops()=NONE");
        due("none, with all PREACHED", "'word 5 1;soul 9' kirk()=2 stops()=NONE preach(0) stops()=NONE");
        due("none, it goes by", "'word 5 1;word 5 1;soul 8' kirk()=3 stops()=NONE");
        due("none, the SERMON is too much", "'word 5 1;thumb 9' kirk()=2 stops()=NONE");
        due("1", "'word 5 1;word 5 1;soul 5' kirk()=3 stops()=1");
        due("8", "'" + EIGHT + ";soul 8;beam 0' kirk()=10 stops()=8");
        due("one short of 8", "'" + EIGHT + ";soul 9;beam 0' kirk()=10 stops()=NONE");
        due("till it HANGS LEVEL by as much as it TREMBLES", "'" + EIGHT + ";soul 8;beam 5' kirk()=10 stops()=3");
        due("how many that are not PREACHED, by numbers", "'word 9 1;word 5 1;word 4 1;soul 18;beam 0' kirk()=5 "
                + "stops()=3 preach(1)=9986 stops()=2 preach(0) stops()=1 preach(2) stops()=0");
        due("a PSALM is one of them", "'psalm 1 1;word 5 1;soul 5' kirk()=3 stops()=2");
        due("nothing changes", "'word 5 6;soul 5' kirk()=2 stops()=1 count(6)=0 count(7)=0 count(13)=0 stops()=1");
    }

    private static void soonest() {
        due("what 0, 1", "soonest(-1)=OUTSIDE soonest(0)=0 soonest(1)=0 soonest(2)=OUTSIDE");
        due("no PARTS, if it HANGS LEVEL now", "'word 5 6;psalm 0 1' kirk()=2 soonest(0)=0 soonest(1)=0");
        due("none, with no PARTS", "'soul 9' kirk()=1 soonest(0)=NONE soonest(1)=NONE soonest(2)=OUTSIDE");
        due("none, with all PREACHED", "'word 5 1;soul 9' kirk()=2 preach(0) soonest(0)=NONE soonest(1)=NONE");
        due("none, none is heavy enough", "'word 5 1;word 5 1;soul 12' kirk()=3 soonest(0)=NONE");
        due("none, all are too heavy", "'word 9 1;word 8 1;soul 6' kirk()=3 soonest(0)=NONE");
        due("the first PART", "'word 5 30;word 9 1;soul 5' kirk()=3 soonest(0)=1 soonest(1)=30");
        due("the last PART", "'" + EIGHT.substring(0, EIGHT.length() - 3) + "9 5;soul 9;beam 0' kirk()=10 "
                + "soonest(0)=128 soonest(1)=5");
        due("all PARTS", "'" + EIGHT + ";soul 8;beam 0' kirk()=10 soonest(0)=255 soonest(1)=8");
        due("as many MINUTES as can be", "'" + EIGHT.replace(" 1;", " 30;").replaceAll("1$", "30")
                + ";soul 8;beam 0' kirk()=10 soonest(1)=240");
        due("that are not PREACHED", "'word 5 1;word 5 9;soul 10' kirk()=3 soonest(0)=3 preach(0) soonest(0)=2 "
                + "soonest(1)=9");
        due("whatever it is between", "'word 9 1;word 1 1;soul 10;beam 0' kirk()=4 soonest(0)=3 stops()=2");
        due("level by as much as it TREMBLES", "'word 9 1;word 5 9;soul 14;beam 5' kirk()=4 soonest(0)=1");
        due("not level by one more", "'word 9 1;word 5 9;soul 15;beam 5' kirk()=4 soonest(0)=3");
        due("nothing changes", "'word 5 6;soul 5' kirk()=2 soonest(0)=1 soonest(1)=6 count(6)=0 count(7)=0 "
                + "count(13)=0");
    }

    private static void soonestOfSeveral() {
        due("with least MINUTES", "'word 9 10;word 9 9;word 9 11;soul 9;beam 0' kirk()=5 soonest(0)=2 soonest(1)=9");
        due("with least MINUTES, ahead of fewest PARTS", "'word 9 10;word 4 4;word 5 5;soul 9;beam 0' kirk()=5 "
                + "soonest(0)=6");
        due("of several with fewest PARTS", "'word 4 4;word 5 6;word 9 10;soul 9;beam 0' kirk()=5 soonest(0)=4");
        due("with fewest PARTS, a PSALM makes one more", "'psalm 0 1;word 4 4;word 9 5;word 5 2;soul 9;beam 0' "
                + "kirk()=6 soonest(0)=4 soonest(1)=5");
        due("of these the least", "'word 9 9;word 9 9;soul 9;beam 0' kirk()=4 soonest(0)=1");
        due("of these the least by bits, not by its first PART", "'word 1 1;word 2 2;word 3 3;word 4 4;soul 5;beam 0' "
                + "kirk()=6 soonest(0)=6 soonest(1)=5");
    }

    private static void never() {
        due("v (0 .. 99)", "never(-1)=OUTSIDE never(0)=0 never(99)=1 never(100)=OUTSIDE");
        due("none of them, too", "'word 20 1;thumb 9;beam 0' kirk()=3 never(8)=1 never(9)=0 never(10)=1");
        due("none of them, all PREACHED", "'word 5 1;soul 40;beam 0' kirk()=3 preach(0) never(4)=1 never(5)=0 "
                + "never(6)=1 never(0)=1");
        due("by as much as it TREMBLES", "'word 20 1;beam 5' kirk()=2 never(5)=0 never(6)=1 never(14)=1 never(15)=0 "
                + "never(25)=0 never(26)=1");
        due("99, by all of them", "'greek 20 1;greek 20 1;greek 20 1;word 3 1;wet 9;thumb 9;beam 0' kirk()=7 "
                + "never(99)=0 never(98)=1");
        due("if the LEAD was v, whatever it is", "'word 5 1;soul 40;beam 0' kirk()=3 never(5)=0 never(40)=1 "
                + "ballast(20) never(5)=0 never(20)=1");
        due("nothing changes", "'word 5 6;soul 5' kirk()=2 never(5)=0 count(4)=5 count(6)=0 count(13)=0");
    }

    private static void seen() {
        String full = "'" + EIGHT + "' kirk()=8 seen(0,0,0)=1 seen(0,0,0)=2 seen(0,0,0)=3 seen(0,0,0)=4 seen(0,0,0)=5 ";
        due("SEEN, 6 at most", full + "count(11)=5 seen(0,0,0)=6 seen(0,0,0)=FULL count(11)=6");
        due("a set with such", "seen(-1,0,0)=UNKNOWN seen(0,0,0)=1 seen(1,0,0)=UNKNOWN seen(2,0,0)=UNKNOWN");
        due("a set of all, with one more", "'word 1 1;word 1 1' kirk()=2 seen(3,0,0)=1 seen(4,0,0)=UNKNOWN "
                + "seen(7,0,0)=UNKNOWN count(11)=1");
        due("a set of 8", "'" + EIGHT + "' kirk()=8 seen(255,0,0)=1 seen(256,0,0)=UNKNOWN seen(511,0,0)=UNKNOWN "
                + "seen(65536,0,0)=UNKNOWN");
        due("a set of PREACHED", "'word 5 1;soul 9' kirk()=2 preach(0) seen(1,0,0)=1");
        due("w (0 .. 9)", "seen(0,-1,0)=OUTSIDE seen(0,0,0)=1 seen(0,9,0)=2 seen(0,10,0)=OUTSIDE count(11)=2");
        due("v (0 .. 255)", "seen(0,0,-1)=OUTSIDE seen(0,0,0)=1 seen(0,0,255)=2 seen(0,0,256)=OUTSIDE count(11)=2");
        due("UNKNOWN ahead of OUTSIDE", "seen(1,10,0)=UNKNOWN seen(1,0,256)=UNKNOWN seen(-1,-1,-1)=UNKNOWN");
        due("UNKNOWN and OUTSIDE ahead of FULL", full + "seen(0,0,0)=6 seen(256,0,0)=UNKNOWN seen(0,10,0)=OUTSIDE "
                + "seen(0,0,256)=OUTSIDE seen(256,10,256)=UNKNOWN seen(255,9,255)=FULL");
        due("SEEN does not fill the place of HEARD", full + "seen(0,0,0)=6 heard(0,0,1)=1");
        due("at WET w, however WET it is", "'greek 5 1;wet 9' kirk()=2 seen(1,2,7) weights(0)=32 rain(0) "
                + "weights(0)=32");
    }

    private static void heard() {
        String full = "'" + EIGHT + "' kirk()=8 heard(0,0,1)=1 heard(0,0,1)=2 heard(0,0,1)=3 heard(0,0,1)=4 "
                + "heard(0,0,1)=5 ";
        due("HEARD, 6 at most", full + "count(12)=5 heard(0,0,1)=6 heard(0,0,1)=FULL count(12)=6");
        due("a set with such", "heard(-1,0,1)=UNKNOWN heard(0,0,1)=1 heard(1,0,1)=UNKNOWN heard(2,0,1)=UNKNOWN");
        due("a set of 8", "'" + EIGHT + "' kirk()=8 heard(255,0,1)=1 heard(256,0,1)=UNKNOWN heard(511,0,1)=UNKNOWN");
        due("v 0 .. 99", "heard(0,-1,1)=OUTSIDE heard(0,0,1)=1 heard(0,99,1)=2 heard(0,100,1)=OUTSIDE count(12)=2");
        due("level 1, 0", "heard(0,0,-1)=OUTSIDE heard(0,0,0)=1 heard(0,0,1)=2 heard(0,0,2)=OUTSIDE count(12)=2");
        due("UNKNOWN ahead of OUTSIDE", "heard(1,100,1)=UNKNOWN heard(1,0,2)=UNKNOWN heard(-1,-1,-1)=UNKNOWN");
        due("UNKNOWN and OUTSIDE ahead of FULL", full + "heard(0,0,1)=6 heard(256,0,1)=UNKNOWN heard(0,100,1)=OUTSIDE "
                + "heard(0,0,2)=OUTSIDE heard(256,100,2)=UNKNOWN heard(255,99,0)=FULL");
        due("HEARD does not fill the place of SEEN", full + "heard(0,0,1)=6 seen(0,0,0)=1");
        due("as WET as now", "'greek 5 1;wet 2;beam 0' kirk()=3 heard(1,9,1)=1 thumbs()=4");
    }

    private static void forget() {
        due("nothing to forget", "forget()=0 forget()=0");
        due("SEEN alone", "seen(0,0,0) forget()=1 count(11)=0 forget()=0");
        due("HEARD alone", "heard(0,0,1) forget()=1 count(12)=0 forget()=0");
        due("as many as there can be of both", "seen(0,0,0) ".repeat(6) + "heard(0,0,1) ".repeat(6)
                + "forget()=12 count(11)=0 count(12)=0 seen(0,0,0)=1 heard(0,0,1)=1");
        due("forgotten is not SEEN, HEARD", "'word 5 1' kirk()=1 seen(1,0,9) heard(1,9,1) weights(0)=512 thumbs()=56 "
                + "forget()=2 weights(0)=" + ALL_WEIGHTS + " thumbs()=" + ALL_THUMBS);
    }

    private static void weights() {
        due("the first and the last PART", "'" + EIGHT + "' kirk()=8 weights(-1)=UNKNOWN weights(0)=" + ALL_WEIGHTS
                + " weights(7)=" + ALL_WEIGHTS + " weights(8)=UNKNOWN");
        due("W 0", "'word 5 1' kirk()=1 seen(1,0,0) weights(0)=1");
        due("W 20", "'word 5 1' kirk()=1 seen(1,0,20) weights(0)=1048576");
        due("W 21 is none", "'word 5 1' kirk()=1 seen(1,0,21) weights(0)=0");
        due("W 0 and 1 of a QUOTE", "'quote 5 1' kirk()=1 seen(1,0,0) weights(0)=3");
        due("W 20 of a QUOTE, 21 is none", "'quote 5 1' kirk()=1 seen(1,0,10) weights(0)=1048576 seen(1,0,11) "
                + "weights(0)=0");
        due("W 18 and 19 of a QUOTE", "'quote 5 1' kirk()=1 seen(1,0,9) weights(0)=786432");
        due("W 0 of a GREEK one", "'greek 5 1' kirk()=1 seen(1,9,9) weights(0)=1 seen(1,9,8) weights(0)=0");
        due("W 20 of a GREEK one", "'greek 5 1' kirk()=1 seen(1,9,29) weights(0)=1048576 seen(1,9,30) weights(0)=0");
        due("every W of a PSALM, or none", "'psalm 5 1' kirk()=1 seen(1,0,0) weights(0)=" + ALL_WEIGHTS
                + " seen(1,0,1) weights(0)=0");
        due("nothing SEEN", "'word 5 1' kirk()=1 weights(0)=" + ALL_WEIGHTS);
        due("a set of none, that had none", "'word 5 1' kirk()=1 seen(0,0,0) weights(0)=" + ALL_WEIGHTS);
        due("a set of none, that had one", "'word 5 1' kirk()=1 seen(0,0,1) weights(0)=0");
        due("all that is SEEN, to the sixth", "'word 5 1;word 6 1' kirk()=2 seen(0,0,0) seen(0,0,0) seen(0,0,0) "
                + "seen(0,0,0) seen(0,0,0) weights(0)=" + ALL_WEIGHTS + " seen(3,0,9) weights(0)=8 weights(1)=16");
        due("SEEN without it, as told", "'word 5 1;word 6 1' kirk()=2 seen(2,0,6) weights(0)=" + ALL_WEIGHTS
                + " weights(1)=64 seen(1,0,6) weights(0)=64 weights(1)=0");
        due("without any THUMB", "'word 5 1;thumb 9' kirk()=2 seen(1,0,7) weights(0)=128");
        due("255 of all", "'" + EIGHT + "' kirk()=8 seen(255,0,255) weights(0)=0 weights(7)=0");
    }

    private static void thumbs() {
        due("nothing HEARD", "thumbs()=" + ALL_THUMBS);
        due("THUMB 0", "'word 5 1;beam 0' kirk()=2 heard(1,5,1) thumbs()=1");
        due("THUMB 9", "'word 5 1;beam 0' kirk()=2 heard(1,14,1) thumbs()=512");
        due("THUMB 10 is none", "'word 5 1;beam 0' kirk()=2 heard(1,15,1) thumbs()=0");
        due("none below 0", "'word 5 1;beam 0' kirk()=2 heard(1,4,1) thumbs()=0");
        due("not LEVEL by one", "'word 5 1;beam 0' kirk()=2 heard(1,14,0) thumbs()=511 heard(1,5,0) thumbs()=510");
        due("LEVEL by as much as it TREMBLES", "'word 5 1;beam 2' kirk()=2 heard(1,9,1) thumbs()=124 heard(1,9,0) "
                + "thumbs()=0");
        due("against 0", "'beam 5' kirk()=1 heard(0,0,1) thumbs()=63");
        due("against 99", "'" + "greek 20 1;".repeat(3) + "word 5 1;wet 9;beam 1' kirk()=6 heard(15,99,1) "
                + "thumbs()=448");
        due("all that is HEARD, to the sixth", "'word 5 1' kirk()=1 heard(0,99,0) heard(0,99,0) heard(0,99,0) "
                + "heard(0,99,0) heard(0,99,0) thumbs()=" + ALL_THUMBS + " heard(1,5,1) thumbs()=3");
        due("whatever the THUMB is, whatever is PREACHED", "'word 5 1;thumb 9;soul 40;beam 0' kirk()=4 preach(0) "
                + "heard(1,8,1) thumbs()=8");
    }

    private static void confessed() {
        due("q (0 .. 10)", "'soul 1;beam 0' kirk()=2 confessed(-1,0)=OUTSIDE confessed(0,0)=0 confessed(10,0)=1 "
                + "confessed(11,0)=OUTSIDE");
        due("part 0, 1", "confessed(5,-1)=OUTSIDE confessed(5,0)=1 confessed(5,1)=1 confessed(5,2)=OUTSIDE");
        due("of nobody", "confessed(0,0)=1 confessed(0,1)=1 confessed(10,0)=1 confessed(10,1)=1");
        due("of nobody, not LEVEL", "'thumb 9' kirk()=1 confessed(5,0)=0 confessed(5,1)=1");
        due("by none of ten", "'soul 1;thumb 1;beam 0' kirk()=3 confessed(0,0)=1 confessed(0,1)=1 confessed(10,0)=0 "
                + "confessed(10,1)=1");
        due("one of ten, nine of ten", "'soul 1;beam 0' kirk()=2 confessed(1,0)=1 confessed(1,1)=10 confessed(9,0)=9 "
                + "confessed(9,1)=10");
        due("6 of PEOPLE", "'" + SIX + ";beam 0' kirk()=7 confessed(1,0)=1 confessed(1,1)=1000000 "
                + "confessed(9,0)=531441 confessed(9,1)=1000000");
        due("somebody without SINS", "'soul 0;soul 0;beam 0' kirk()=3 confessed(3,0)=1 confessed(3,1)=1");
        due("by as much as it TREMBLES", "'soul 5;soul 1;beam 5' kirk()=3 confessed(5,0)=3 confessed(5,1)=4");
        due("less the BALLAST, 0 at least", "'soul 5;soul 5;beam 0' kirk()=3 ballast(5) confessed(5,0)=3 "
                + "confessed(5,1)=4");
        due("nothing changes", "'soul 5' kirk()=1 confessed(5,0)=1 confessed(5,1)=2 sins(0)=5 count(4)=5 count(13)=0");
    }

    private static void lowestTerms() {
        due("lowest terms of 5 of 10", "'soul 1;beam 0' kirk()=2 confessed(5,0)=1 confessed(5,1)=2");
        due("lowest terms of 4 of 10", "'soul 1;beam 0' kirk()=2 confessed(4,0)=2 confessed(4,1)=5");
        due("lowest terms that are no lower", "'soul 1;beam 0' kirk()=2 confessed(3,0)=3 confessed(3,1)=10");
        due("lowest terms of none", "'" + SIX + ";thumb 9;beam 0' kirk()=8 confessed(5,0)=0 confessed(5,1)=1");
        due("lowest terms of all", "'" + SIX + ";thumb 3;beam 5' kirk()=8 confessed(5,0)=1 confessed(5,1)=1");
        due("lowest terms of six", "'" + SIX + ";beam 0' kirk()=7 confessed(5,0)=1 confessed(5,1)=64");
    }

    private static void count() {
        due("what (0 .. 14)", "'wet' count(-1)=OUTSIDE count(0)=0 count(14)=3 count(15)=OUTSIDE");
        due("none of each at first", "count(0)=0 count(1)=0 count(2)=0 count(3)=0 count(4)=0 count(5)=1 count(6)=0 "
                + "count(7)=0 count(8)=0 count(9)=0 count(10)=0 count(11)=0 count(12)=0 count(13)=0 count(14)=0");
        due("as many of each as can be", "'" + EIGHT + ";" + SIX + "' kirk()=14 count(0)=8 count(1)=6 "
                + "rain(9) ballast(20) ballast(20) ballast(20) ballast(20) ballast(20) rain(9) rain(9) rain(9) "
                + "count(9)=99 count(10)=9 count(13)=8 " + "seen(0,0,0) ".repeat(6)
                + "heard(0,0,1) ".repeat(6) + "write(97) ".repeat(160) + "count(11)=6 count(12)=6 count(14)=160");
        due("5 1 it HANGS LEVEL, 0", "'soul 1' kirk()=1 count(5)=1 sin(0,1) count(5)=0 ballast(1) count(5)=1");
    }
}
