/** Promises 9 to 16: what is done. */
public final class DoneTest {
    private static final Check C = new Check();

    public static void main(String[] args) {
        preaching();
        sinning();
        ballastPaid();
        raining();
        sundays();
        undoing();
        undoingOnlyWhatWasDone();
        undoingTheLastEight();
        keeping();
        C.end();
    }

    private static void preaching() {
        SermonScale x = Check.told("word 10 5;greek 6 4;quote 9 3;psalm 9 2;soul 20;thumb 3;wet 2;beam 0");
        C.due("preach(-1)", x.preach(-1), Check.UNKNOWN);
        C.due("preach(4)", x.preach(4), Check.UNKNOWN);
        C.due("preach(1)", x.preach(1), 9999 + 11 - 20);
        C.due("preach(1) again", x.preach(1), Check.NOT);
        C.due("preached", x.count(6), 2);
        C.due("minutes", x.count(7), 4);
        C.due("preach(3)", x.preach(3), 9999 + 11 - 20);
        C.due("preach(0)", x.preach(0), 9999 + 21 - 20);
        C.due("sermon", x.count(3), 21);
        C.due("minutes of three", x.count(7), 11);
        x.sin(0, 1);
        C.due("level", x.count(5), 1);
        C.due("preach(2) when level", x.preach(2), Check.NOT);
        C.due("preach(4) when level", x.preach(4), Check.UNKNOWN);
        x.sin(0, 1);
        C.due("preach(2) when not level any more", x.preach(2), 9999 + 25 - 22);
        C.due("undoable: refusals do not count", x.count(13), 6);
        SermonScale y = Check.told("word 10 5;word 1 1;soul 13;beam 3");
        C.due("preach to the tremble", y.preach(0), 9999 - 3);
        C.due("level by the tremble", y.preach(1), Check.NOT);
    }

    private static void sinning() {
        SermonScale x = Check.told("soul 40;soul 1");
        C.due("sin(2, 1)", x.sin(2, 1), Check.UNKNOWN);
        C.due("sin(-1, 0)", x.sin(-1, 0), Check.UNKNOWN);
        C.due("sin(0, 0)", x.sin(0, 0), Check.OUTSIDE);
        C.due("sin(0, 21)", x.sin(0, 21), Check.OUTSIDE);
        C.due("sin(1, 1)", x.sin(1, 1), 2);
        C.due("sin(0, 20)", x.sin(0, 20), 60);
        C.due("sin(0, 20)", x.sin(0, 20), 80);
        C.due("sin(0, 19)", x.sin(0, 19), 99);
        C.due("sin(0, 1) at most", x.sin(0, 1), 99);
        C.due("lead", x.count(4), 101);
        C.due("undoable", x.count(13), 5);
    }

    private static void ballastPaid() {
        SermonScale x = Check.told("soul 30");
        C.due("ballast(0)", x.ballast(0), Check.OUTSIDE);
        C.due("ballast(-5)", x.ballast(-5), Check.OUTSIDE);
        C.due("ballast(21)", x.ballast(21), Check.OUTSIDE);
        C.due("ballast(1)", x.ballast(1), 1);
        C.due("lead", x.count(4), 29);
        C.due("ballast(20)", x.ballast(20), 21);
        C.due("ballast(20)", x.ballast(20), 41);
        C.due("no lead below 0", x.count(4), 0);
        C.due("ballast(20)", x.ballast(20), 61);
        C.due("ballast(20)", x.ballast(20), 81);
        C.due("ballast(19) of which 18 are taken", x.ballast(19), 99);
        C.due("ballast(1) of which none is taken", x.ballast(1), 99);
        C.due("undoable", x.count(13), 7);
        C.due("paid", x.count(9), 99);
    }

    private static void raining() {
        SermonScale x = Check.told("wet 3;greek 5 5;thumb 1");
        C.due("rain(-1)", x.rain(-1), Check.OUTSIDE);
        C.due("rain(10)", x.rain(10), Check.OUTSIDE);
        C.due("rain(9)", x.rain(9), 3);
        C.due("rain(9) again", x.rain(9), 9);
        C.due("rain(0)", x.rain(0), 9);
        C.due("dry", x.count(10), 0);
        C.due("undoable", x.count(13), 3);
    }

    private static void sundays() {
        SermonScale x = Check.told("word 9 5;word 4 6;soul 9;soul 7;wet 2;thumb 1");
        x.preach(0);
        x.ballast(3);
        C.due("lead ahead of Sunday", x.count(4), 13);
        C.due("a Sunday not level", x.sunday(), 0);
        C.due("sins(0) halved", x.sins(0), 4);
        C.due("sins(1) halved", x.sins(1), 3);
        C.due("no ballast", x.count(9), 0);
        C.due("nothing preached", x.count(6), 0);
        C.due("still wet", x.count(10), 2);
        C.due("Sunday 1", x.count(2), 1);
        C.due("minutes go on", x.count(7), 5);
        C.due("no level Sundays", x.count(8), 0);
        C.due("preached again", x.preach(1), 9999 + 5 - 7);
        C.due("once more", x.preach(0), 9999 + 14 - 7);
        C.due("minutes of all Sundays", x.count(7), 16);
        x.sin(0, 6);
        C.due("level", x.count(5), 1);
        C.due("a level Sunday", x.sunday(), 1);
        C.due("no sins(0)", x.sins(0), 0);
        C.due("no sins(1)", x.sins(1), 0);
        C.due("level Sundays", x.count(8), 1);
        C.due("Sunday 2", x.count(2), 2);
        x.undo();
        C.due("level Sundays undone", x.count(8), 0);
        x.sunday();
        for (int i = 3; i <= 400; i++) {
            x.sunday();
        }
        C.due("Sunday 400", x.count(2), 400);
        C.due("level Sundays of 400", x.count(8), 399);
    }

    private static void undoing() {
        SermonScale x = Check.told("word 9 5;greek 4 6;soul 30;soul 7;thumb 1");
        C.due("undo() of nothing", x.undo(), Check.NOT);
        String[] states = new String[8];
        for (int i = 0; i < 7; i++) {
            states[i] = Check.allOf(x);
            doOne(x, i);
        }
        for (int i = 6; i >= 0; i--) {
            C.due("undo() of " + i, x.undo(), i);
            C.due("all as ahead of " + i, Check.allOf(x).equals(states[i]) ? 1 : 0, 1);
        }
        C.due("undo() of nothing any more", x.undo(), Check.NOT);
    }

    private static void undoingOnlyWhatWasDone() {
        SermonScale x = Check.told("word 9 5;soul 30");
        x.seen(1, 0, 3);
        x.heard(1, 9, 1);
        x.rain(0);
        C.due("undo() of the same rain", x.undo(), 0);
        C.due("undo() leaves what was seen", x.count(11), 1);
        C.due("undo() leaves what was heard", x.count(12), 1);
        x.preach(9);
        x.sin(0, 0);
        x.ballast(0);
        x.rain(-1);
        x.seen(0, 0, 0);
        x.keep(0);
        C.due("only what was done is undone", x.count(13), 0);
        x.write('k');
        x.rain(3);
        x.write('i');
        C.due("undo() with a text", x.undo(), 0);
        C.due("undo() leaves the text", x.count(14), 2);
    }

    private static void doOne(SermonScale x, int which) {
        switch (which) {
            case 0: x.preach(0); break;
            case 1: x.rain(7); break;
            case 2: x.preach(1); break;
            case 3: x.sin(1, 20); break;
            case 4: x.ballast(20); break;
            case 5: x.sunday(); break;
            default: x.preach(1); break;
        }
    }

    private static void undoingTheLastEight() {
        SermonScale x = Check.told("soul 1");
        for (int i = 1; i <= 13; i++) {
            x.sin(0, i);
            C.due("undoable behind " + i, x.count(13), Math.min(i, 8));
        }
        for (int left = 7; left >= 0; left--) {
            C.due("undo()", x.undo(), left);
        }
        C.due("the eighth undone", x.sins(0), 16);
        C.due("a ninth undo()", x.undo(), Check.NOT);
        C.due("nothing changed", x.sins(0), 16);
        x.sin(0, 1);
        C.due("undoable anew", x.undo(), 0);
        C.due("as it was", x.sins(0), 16);
    }

    private static void keeping() {
        SermonScale x = Check.told("word 9 5;greek 4 6;soul 30;soul 7;thumb 1");
        C.due("keep(-1)", x.keep(-1), Check.UNKNOWN);
        C.due("keep(2)", x.keep(2), Check.UNKNOWN);
        C.due("back(-1)", x.back(-1), Check.UNKNOWN);
        C.due("back(2)", x.back(2), Check.UNKNOWN);
        C.due("back(0) of nothing", x.back(0), Check.NOT);
        x.preach(0);
        C.due("keep(0)", x.keep(0), 0);
        C.due("keep() leaves what can be undone", x.count(13), 1);
        x.ballast(5);
        x.rain(6);
        x.sin(0, 7);
        x.sunday();
        x.preach(1);
        C.due("keep(1)", x.keep(1), 1);
        String later = Check.allOf(x);
        x.seen(1, 0, 9);
        x.heard(1, 9, 1);
        x.write('w');
        C.due("back(0)", x.back(0), 0);
        int[] want = {2, 2, 0, 10, 37, 0, 1, 5, 0, 0, 0, 1, 1, 0, 1};
        for (int what = 0; what <= 14; what++) {
            C.due("count(" + what + ") behind back(0)", x.count(what), want[what]);
        }
        C.due("sins kept", x.sins(0), 30);
        C.due("undo() behind back()", x.undo(), Check.NOT);
        x.preach(1);
        C.due("back(0) again", x.back(0), 0);
        C.due("kept is not touched by what is done", x.count(6), 1);
        x.forget();
        x.erase();
        C.due("back(1)", x.back(1), 1);
        C.due("all as kept", Check.allOf(x).equals(later) ? 1 : 0, 1);
        C.due("but nothing can be undone", x.count(13), 0);
        x.sunday();
        C.due("keep(1) over", x.keep(1), 2);
        C.due("back(0) untouched", x.back(0), 0);
        C.due("back(1) is the later", x.back(1), 2);
    }
}
