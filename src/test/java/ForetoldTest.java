/** Promises 17 to 19: what is foretold. */
public final class ForetoldTest {
    private static final Check C = new Check();

    public static void main(String[] args) {
        stopsByNumbers();
        soonestOfAll();
        soonestOfEqual();
        neverLevel();
        nothingChanges();
        C.end();
    }

    private static void stopsByNumbers() {
        SermonScale x = Check.told("word 5 1;word 5 1;psalm 9 1;word 5 1;soul 15;beam 0");
        C.due("stops()", x.stops(), 4);
        x.preach(1);
        C.due("stops() with one preached", x.stops(), 3);
        x.ballast(10);
        C.due("stops() when level", x.stops(), 0);
        x.ballast(1);
        C.due("stops() when over", x.stops(), Check.NONE);
        C.due("stops() of nobody's parts", Check.told("soul 9").stops(), Check.NONE);
        C.due("stops() at the first level", Check.told("word 5 1;word 1 1;word 1 1;soul 7").stops(), 2);
        C.due("stops() goes by numbers alone", Check.told("word 9 1;word 5 1;soul 5").stops(), Check.NONE);
        C.due("stops() in the rain", Check.told("greek 1 1;greek 1 1;soul 20;wet 9;beam 0").stops(), 2);
        C.due("stops() with the thumb", Check.told("word 5 1;word 5 1;soul 14;thumb 9;beam 0").stops(), 1);
    }

    private static void soonestOfAll() {
        SermonScale x = Check.told("word 9 1;word 5 9;word 4 8;soul 9;beam 0");
        C.due("soonest(0)", x.soonest(0), 1);
        C.due("soonest(1)", x.soonest(1), 1);
        C.due("soonest(-1)", x.soonest(-1), Check.OUTSIDE);
        C.due("soonest(2)", x.soonest(2), Check.OUTSIDE);
        x.preach(1);
        C.due("soonest(0) with one preached", x.soonest(0), 4);
        C.due("soonest(1) with one preached", x.soonest(1), 8);
        x.preach(0);
        C.due("soonest(0) none", x.soonest(0), Check.NONE);
        C.due("soonest(1) none", x.soonest(1), Check.NONE);
        C.due("soonest(2) none", x.soonest(2), Check.OUTSIDE);
        x.sin(0, 5);
        C.due("soonest(0) when level", x.soonest(0), 0);
        C.due("soonest(1) when level", x.soonest(1), 0);
        SermonScale y = Check.told("word 9 9;psalm 0 1;quote 18 5;greek 3 6;wet 6;thumb 2;soul 12");
        C.due("soonest(0) of kinds", y.soonest(0), 4);
        C.due("soonest(1) of kinds", y.soonest(1), 5);
        C.due("soonest(0) of eight", Check.told("word 1 1;word 1 1;word 1 1;word 1 1;word 1 1;word 1 1;"
                + "word 1 1;word 1 1;soul 8;beam 0").soonest(0), 255);
    }

    private static void soonestOfEqual() {
        C.due("least minutes ahead of fewest parts",
                Check.told("word 9 10;word 4 4;word 5 5;soul 9;beam 0").soonest(0), 6);
        C.due("fewest parts of equal minutes",
                Check.told("word 4 4;word 5 6;word 9 10;soul 9;beam 0").soonest(0), 4);
        C.due("the least of equal minutes and parts",
                Check.told("word 5 5;word 9 9;word 9 9;word 4 4;soul 9;beam 0").soonest(0), 2);
        C.due("the least of equal pairs",
                Check.told("word 1 1;word 3 3;word 2 2;word 2 2;soul 4;beam 0").soonest(0), 3);
    }

    private static void neverLevel() {
        SermonScale x = Check.told("word 5 1;word 11 1;thumb 2;beam 1;soul 40");
        int[] level = {2, 7, 13, 18};
        for (int v = 0; v <= 99; v++) {
            int want = 1;
            for (int sermon : level) {
                want = Math.abs(sermon - v) <= 1 ? 0 : want;
            }
            C.due("never(" + v + ")", x.never(v), want);
        }
        C.due("never(-1)", x.never(-1), Check.OUTSIDE);
        C.due("never(100)", x.never(100), Check.OUTSIDE);
        x.preach(0);
        C.due("never(2) with one preached", x.never(2), 1);
        C.due("never(7) with one preached", x.never(7), 0);
        C.due("never(13) with one preached", x.never(13), 1);
        C.due("never(18) with one preached", x.never(18), 0);
    }

    private static void nothingChanges() {
        SermonScale x = Check.told("word 5 1;word 11 1;thumb 2;beam 1;soul 40");
        x.preach(1);
        String all = Check.allOf(x);
        x.stops();
        x.soonest(0);
        x.soonest(1);
        x.never(9);
        x.confessed(5, 0);
        C.due("nothing changed", Check.allOf(x).equals(all) ? 1 : 0, 1);
    }
}
