/** Promises 20 to 26: what was seen. */
public final class SeenTest {
    private static final Check C = new Check();
    private static final int ALL_WEIGHTS = (1 << 21) - 1;

    public static void main(String[] args) {
        seeing();
        hearing();
        forgetting();
        weightsOfParts();
        thumbsOfHeard();
        confessing();
        counting();
        C.end();
    }

    private static void seeing() {
        SermonScale x = Check.told("word 1 1;word 2 1");
        C.due("seen(4, 0, 0)", x.seen(4, 0, 0), Check.UNKNOWN);
        C.due("seen(-1, 10, 0)", x.seen(-1, 10, 0), Check.UNKNOWN);
        C.due("seen(256, 0, 0)", x.seen(256, 0, 0), Check.UNKNOWN);
        C.due("seen(0, -1, 0)", x.seen(0, -1, 0), Check.OUTSIDE);
        C.due("seen(0, 10, 0)", x.seen(0, 10, 0), Check.OUTSIDE);
        C.due("seen(0, 0, -1)", x.seen(0, 0, -1), Check.OUTSIDE);
        C.due("seen(0, 0, 256)", x.seen(0, 0, 256), Check.OUTSIDE);
        for (int i = 1; i <= 6; i++) {
            C.due("seen " + i, x.seen(i % 4, 9, 255), i);
        }
        C.due("seen 7", x.seen(0, 0, 0), Check.FULL);
        C.due("seen(4, 0, 0) when full", x.seen(4, 0, 0), Check.UNKNOWN);
        C.due("seen(0, 0, 256) when full", x.seen(0, 0, 256), Check.OUTSIDE);
        C.due("heard() beside", x.heard(0, 0, 0), 1);
        SermonScale y = Check.told("word 1 1;word 1 1;word 1 1;word 1 1;word 1 1;word 1 1;word 1 1;word 1 1");
        C.due("seen(255, 0, 8)", y.seen(255, 0, 8), 1);
        C.due("seen(256, 0, 8)", y.seen(256, 0, 8), Check.UNKNOWN);
    }

    private static void hearing() {
        SermonScale x = Check.told("word 1 1;word 2 1");
        C.due("heard(4, 0, 0)", x.heard(4, 0, 0), Check.UNKNOWN);
        C.due("heard(-1, 100, 0)", x.heard(-1, 100, 0), Check.UNKNOWN);
        C.due("heard(0, -1, 0)", x.heard(0, -1, 0), Check.OUTSIDE);
        C.due("heard(0, 100, 0)", x.heard(0, 100, 0), Check.OUTSIDE);
        C.due("heard(0, 0, 2)", x.heard(0, 0, 2), Check.OUTSIDE);
        C.due("heard(0, 0, -1)", x.heard(0, 0, -1), Check.OUTSIDE);
        for (int i = 1; i <= 6; i++) {
            C.due("heard " + i, x.heard(i % 4, 99, i % 2), i);
        }
        C.due("heard 7", x.heard(0, 0, 0), Check.FULL);
        C.due("heard(4, 0, 0) when full", x.heard(4, 0, 0), Check.UNKNOWN);
        C.due("heard(0, 0, 2) when full", x.heard(0, 0, 2), Check.OUTSIDE);
        C.due("seen() beside", x.seen(0, 0, 0), 1);
        C.due("nothing to undo", x.count(13), 0);
    }

    private static void forgetting() {
        SermonScale x = Check.told("word 1 1");
        C.due("forget() of nothing", x.forget(), 0);
        x.seen(1, 0, 9);
        x.seen(1, 0, 8);
        x.heard(1, 0, 1);
        C.due("forget()", x.forget(), 3);
        C.due("nothing seen", x.count(11), 0);
        C.due("nothing heard", x.count(12), 0);
        C.due("all weights", x.weights(0), ALL_WEIGHTS);
        C.due("all thumbs", x.thumbs(), 1023);
        C.due("seen anew", x.seen(1, 0, 4), 1);
        C.due("weights anew", x.weights(0), 1 << 4);
    }

    private static void weightsOfParts() {
        SermonScale x = Check.told("word 5 1;greek 4 1;quote 9 1;psalm 3 1;thumb 9;wet 7");
        C.due("weights(-1)", x.weights(-1), Check.UNKNOWN);
        C.due("weights(4)", x.weights(4), Check.UNKNOWN);
        for (int part = 0; part < 4; part++) {
            C.due("weights(" + part + ") of nothing seen", x.weights(part), ALL_WEIGHTS);
        }
        x.seen(15, 3, 17);
        C.due("of a word", x.weights(0), 1 << 6);
        C.due("of a greek word", x.weights(1), 1 << 5);
        C.due("of a quote", x.weights(2), 1 << 10 | 1 << 11);
        C.due("of a psalm by which it was not so", x.weights(3), 0);
        x.seen(1, 9, 6);
        C.due("of a word seen twice", x.weights(0), 1 << 6);
        C.due("of a quote not in the set", x.weights(2), 0);
        x.forget();
        x.seen(8, 9, 0);
        C.due("of a psalm", x.weights(3), ALL_WEIGHTS);
        C.due("of a word not in the set", x.weights(0), ALL_WEIGHTS);
        x.seen(4, 0, 10);
        C.due("of the heaviest quote", x.weights(2), 1 << 20);
        x.forget();
        x.seen(2, 5, 4);
        C.due("of a greek word lighter than the wet", x.weights(1), 0);
        x.forget();
        x.seen(1, 0, 5);
        x.seen(1, 0, 6);
        C.due("of a word that was both", x.weights(0), 0);
        x.forget();
        x.seen(0, 0, 1);
        C.due("an empty set that weighed 1", x.weights(0), 0);
    }

    private static void thumbsOfHeard() {
        SermonScale x = Check.told("word 5 1;greek 4 1;quote 9 1;psalm 3 1;thumb 9;wet 2;beam 2");
        C.due("thumbs() of nothing heard", x.thumbs(), 1023);
        x.heard(3, 15, 1);
        C.due("level by 2 .. 6", x.thumbs(), 0b0001111100);
        x.heard(1, 7, 0);
        C.due("and not by 0 .. 4", x.thumbs(), 0b0001100000);
        x.heard(12, 11, 1);
        C.due("and by 5 .. 9", x.thumbs(), 0b0001100000);
        x.rain(9);
        C.due("as wet as it was when heard", x.thumbs(), 0b0001100000);
        x.forget();
        x.heard(2, 17, 1);
        C.due("as wet as it is now", x.thumbs(), 0b0001111100);
        x.undo();
        C.due("undone rain leaves what was heard", x.thumbs(), 0b0001111100);
        x.heard(0, 99, 1);
        C.due("by none", x.thumbs(), 0);
        x.forget();
        x.heard(0, 99, 0);
        C.due("by all", x.thumbs(), 1023);
    }

    private static void confessing() {
        SermonScale x = Check.told("soul 5;soul 3;soul 2;thumb 5;beam 0");
        C.due("confessed(-1, 0)", x.confessed(-1, 0), Check.OUTSIDE);
        C.due("confessed(11, 0)", x.confessed(11, 0), Check.OUTSIDE);
        C.due("confessed(5, -1)", x.confessed(5, -1), Check.OUTSIDE);
        C.due("confessed(5, 2)", x.confessed(5, 2), Check.OUTSIDE);
        // Level if only the first confesses, or only the other two: 2*8*8 + 8*2*2 of 1000.
        C.due("above at 2 of ten", x.confessed(2, 0), 4);
        C.due("below at 2 of ten", x.confessed(2, 1), 25);
        C.due("above at 0 of ten", x.confessed(0, 0), 0);
        C.due("below at 0 of ten", x.confessed(0, 1), 1);
        x.ballast(5);
        C.due("above when surely level", x.confessed(0, 0), 1);
        C.due("below when surely level", x.confessed(0, 1), 1);
        C.due("above when all confess", x.confessed(10, 0), 0);
        // With ballast 5 it is level only if nobody confesses: 7*7*7 of 1000.
        C.due("above with ballast", x.confessed(3, 0), 343);
        C.due("below with ballast", x.confessed(3, 1), 1000);
        SermonScale y = Check.told("soul 1;soul 1;soul 1;soul 1;soul 1;soul 1;beam 0");
        C.due("above when all six must confess", y.confessed(7, 0), 117649);
        C.due("below when all six must confess", y.confessed(7, 1), 1000000);
        C.due("above when all six do", y.confessed(10, 0), 1);
        SermonScale z = new SermonScale();
        C.due("above of nobody", z.confessed(10, 0), 1);
        C.due("below of nobody", z.confessed(10, 1), 1);
    }

    private static void counting() {
        SermonScale x = Check.told("word 5 3;greek 4 7;soul 20;soul 18;thumb 3;wet 2");
        x.sunday();
        x.preach(1);
        x.ballast(4);
        x.seen(1, 0, 5);
        x.heard(1, 5, 0);
        x.heard(1, 5, 0);
        x.write('w');
        int[] want = {2, 2, 1, 9, 15, 0, 2, 7, 0, 4, 2, 1, 2, 3, 1};
        for (int what = 0; what <= 14; what++) {
            C.due("count(" + what + ")", x.count(what), want[what]);
        }
        C.due("count(-1)", x.count(-1), Check.OUTSIDE);
        C.due("count(15)", x.count(15), Check.OUTSIDE);
        x.preach(0);
        C.due("level by 1", x.count(5), 1);
        x.sunday();
        C.due("count(8)", x.count(8), 1);
    }
}
