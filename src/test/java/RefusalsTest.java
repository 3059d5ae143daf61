/**
 * Calls for which two REFUSALS or more fit at once: the first in the order in which the promise tells
 * them is answered, and it alone is counted; and REFUSALS that come of what there is: no room, a state.
 */
public final class RefusalsTest {
    private static final int LOW = Integer.MIN_VALUE;
    private static final int HIGH = Integer.MAX_VALUE;
    private static final Cases CASES = new Cases();

    public static void main(String[] args) {
        letters();
        measuresAndWood();
        tellings();
        nails();
        pipes();
        fractions();
        mirrors();
        rows();
        images();
        counted();
        CASES.end(2, 4, 5, 7, 8, 9, 10, 14, 15, 19, 22, 24, 26, 28, 29, 31, 32, 34, 38, 39);
    }

    /** On a new object, of which nothing but the arguments is wrong. */
    private static void both(int promise, String what, int number, String name, int... a) {
        CASES.promise(promise, what + ": " + number, run -> run.refused(number, name, a));
    }

    private static void fullLetters(Run run) {
        run.letters("ll;".repeat(32));
        run.due(96, "count", 9);
    }

    private static void letters() {
        CASES.promise(2, "the 96th letter has room, the 97th has none: -6", run -> {
            run.letters("ll;".repeat(31));
            run.due(94, "letter", 'l');
            run.due(95, "letter", 'l');
            run.due(96, "letter", ';');
            run.refused(-6, "letter", 'l');
            run.due(96, "count", 9);
            run.due(32, "wall");
        });
        CASES.promise(2, "a letter below 0 and no room: -4", run -> {
            fullLetters(run);
            run.refused(-4, "letter", -1);
            run.refused(-4, "letter", LOW);
        });
        CASES.promise(2, "a letter above 255 and no room: -6, once", run -> {
            fullLetters(run);
            run.refused(-6, "letter", 256);
            run.refused(-6, "letter", HIGH);
        });
        CASES.promise(2, "no room for the least and for the greatest letter: -6", run -> {
            fullLetters(run);
            run.refused(-6, "letter", 0);
            run.refused(-6, "letter", 255);
        });
        CASES.promise(2, "there is room again behind wall()", run -> {
            fullLetters(run);
            run.refused(-6, "letter", 'l');
            run.due(32, "wall");
            run.due(1, "letter", 'l');
        });
        CASES.promise(2, "there is room again behind a fault", run -> {
            run.letters("x".repeat(96));
            run.refused(-6, "letter", 'x');
            run.due(-1000, "wall");
            run.due(1, "letter", 0);
            run.due(2, "letter", 255);
        });
        CASES.promise(2, "refused letters are not among those of the wall", run -> {
            run.letters("l");
            run.refused(-4, "letter", -1);
            run.refused(-6, "letter", 256);
            run.letters("r;");
            run.due(1, "wall");
            run.due(1, "count", 7);
        });
    }

    private static void measuresAndWood() {
        both(4, "no such what and a number below each least", -2, "set", 4, LOW);
        both(4, "no such what and a number above each greatest", -2, "set", -1, HIGH);
        both(5, "no such INCH and no such OFFSET, once", -1, "wood", 48, 16);
        both(5, "no such INCH and no such OFFSET below 0, once", -1, "wood", -1, -1);
        both(5, "no such INCH and no such OFFSET far off, once", -1, "wood", HIGH, LOW);
        both(7, "no such KIND and no such what, once", -2, "tool", 5, 3);
        both(7, "no such KIND and no such what below 0, once", -2, "tool", -1, -1);
    }

    private static void sixTellings(Run run) {
        for (int used = 1; used <= 6; used++) {
            run.due(used, "telling", used % 5, used, used % 2);
        }
    }

    private static void tellings() {
        both(8, "no such KIND and no such INCH", -2, "telling", 5, 48, 0);
        both(8, "no such KIND and no such is", -2, "telling", -1, 0, 2);
        both(8, "no such KIND, INCH and is", -2, "telling", 5, -1, -1);
        both(8, "no such INCH and no such is", -1, "telling", 0, 48, 2);
        both(8, "no such INCH below 0 and no such is below 0", -1, "telling", 4, -1, -1);
        CASES.promise(8, "the sixth telling has room, the seventh has none: -6", run -> {
            sixTellings(run);
            run.refused(-6, "telling", 0, 0, 0);
            run.refused(-6, "telling", 4, 47, 1);
            run.due(6, "count", 1);
            run.due(0, "hole", 47);
        });
        CASES.promise(8, "no such KIND and USED is 6: -2", run -> {
            sixTellings(run);
            run.refused(-2, "telling", 5, 0, 0);
            run.refused(-2, "telling", -1, 48, 2);
        });
        CASES.promise(8, "no such INCH and USED is 6: -1", run -> {
            sixTellings(run);
            run.refused(-1, "telling", 0, 48, 0);
            run.refused(-1, "telling", 0, -1, 2);
        });
        CASES.promise(8, "no such is and USED is 6: -2", run -> {
            sixTellings(run);
            run.refused(-2, "telling", 0, 0, 2);
            run.refused(-2, "telling", 0, 0, -1);
        });
        CASES.promise(8, "there is room again when a measure was set", run -> {
            for (int what = 0; what < 4; what++) {
                sixTellings(run);
                run.refused(-6, "telling", 0, 0, 0);
                run.ask("set", what, what == 0 ? 16 : 2);
                run.due(1, "telling", 0, 0, 0);
                run.ask("set", what, what == 0 ? 16 : 2);
            }
        });
        CASES.promise(8, "a set that is refused makes no room", run -> {
            sixTellings(run);
            run.refused(-6, "set", 0, 25);
            run.refused(-6, "telling", 0, 0, 0);
        });
        CASES.promise(8, "there is room again when a wall with a measure was told", run -> {
            for (String text : new String[] {"s16,2;", "ll;", "d20;"}) {
                sixTellings(run);
                run.refused(-6, "telling", 0, 0, 0);
                run.wall(1, text);
                run.due(1, "telling", 0, 0, 0);
                run.wall(1, text);
            }
        });
        CASES.promise(8, "nails and pipes make no room for tellings", run -> {
            sixTellings(run);
            run.ask("nail", 20, 0);
            run.ask("pipe", 20, 1);
            run.ask("fill");
            run.refused(-6, "telling", 0, 0, 0);
        });
        CASES.promise(8, "there is as much room as there was in the image", run -> {
            run.times(5, "telling", 0, 0, 0);
            run.due(5, "image");
            run.due(6, "telling", 0, 1, 0);
            run.refused(-6, "telling", 0, 1, 0);
            run.due(5, "on");
            run.due(6, "telling", 0, 2, 0);
            run.due(6, "image");
            run.ask("set", 0, 16);
            run.due(6, "on");
            run.refused(-6, "telling", 0, 1, 0);
        });
    }

    private static void nails() {
        both(9, "no such INCH and no such is", -1, "nail", 48, 2);
        both(9, "no such INCH below 0 and no such is below 0", -1, "nail", -1, -1);
        CASES.promise(9, "no such is at an INCH where NONE can not be: -2", run -> {
            run.ask("nail", 0, 1);
            run.refused(-2, "nail", 0, 2);
            run.refused(-2, "nail", 0, -1);
            run.refused(-2, "nail", 0, HIGH);
        });
        CASES.promise(9, "NONE where WOOD is sure: -3, and no HOLE", run -> {
            run.due(2, "nail", 0, 1);
            run.refused(-3, "nail", 16, 0);
            run.due(0, "hole", 16);
        });
        CASES.promise(9, "WOOD where there is none for sure: -3, and no HOLE", run -> {
            run.due(2, "nail", 0, 1);
            run.refused(-3, "nail", 2, 1);
            run.due(0, "hole", 2);
        });
        CASES.promise(9, "WOOD where WOOD is sure, and NONE where none is: nothing but a HOLE", run -> {
            run.due(2, "nail", 0, 1);
            run.due(2, "nail", 16, 1);
            run.due(2, "nail", 2, 0);
            run.due(3, "count", 2);
        });
        CASES.promise(9, "the last OFFSET but one may go, the last may not: -3", run -> {
            for (int x = 0; x < 14; x += 2) {
                run.due(14 - x, "nail", x + 1, 0);
            }
            run.due(1, "nail", 14, 0);
            run.due(1, "weight", 15);
            run.refused(-3, "nail", 15, 0);
            run.refused(-3, "nail", 0, 0);
            run.due(1, "nail", 15, 1);
        });
        CASES.promise(9, "NONE at a door, where each OFFSET has WOOD: -3", run -> {
            run.ask("set", 3, 2);
            run.refused(-3, "nail", 20, 0);
            run.refused(-3, "nail", 21, 0);
            run.due(14, "nail", 22, 0);
        });
        CASES.promise(9, "WOOD from 40 on by SHORT: -3 from there, not ahead of it", run -> {
            run.ask("set", 3, 5);
            run.refused(-3, "nail", 40, 1);
            run.refused(-3, "nail", 47, 1);
            run.due(16, "nail", 40, 0);
            run.due(2, "nail", 39, 1);
        });
    }

    private static void sixPipes(Run run) {
        for (int i = 0; i < 6; i++) {
            run.due(i, "pipe", 5 * i, i);
        }
    }

    private static void pipes() {
        both(10, "no such INCH and a CHANCE below 0", -1, "pipe", 48, -1);
        both(10, "no such INCH and a CHANCE above 9", -1, "pipe", -1, 10);
        CASES.promise(10, "the sixth PIPE has room, the seventh has none: -6", run -> {
            sixPipes(run);
            run.refused(-6, "pipe", 0, 0);
            run.refused(-6, "pipe", 47, 9);
            run.due(6, "count", 3);
            run.due(0, "risk", 47);
        });
        CASES.promise(10, "no such INCH and 6 PIPES: -1", run -> {
            sixPipes(run);
            run.refused(-1, "pipe", 48, 0);
            run.refused(-1, "pipe", -1, -1);
            run.refused(-1, "pipe", 48, 10);
        });
        CASES.promise(10, "a CHANCE below 0 and 6 PIPES: -4", run -> {
            sixPipes(run);
            run.refused(-4, "pipe", 0, -1);
            run.refused(-4, "pipe", 0, LOW);
        });
        CASES.promise(10, "a CHANCE above 9 and 6 PIPES: -6, once", run -> {
            sixPipes(run);
            run.refused(-6, "pipe", 0, 10);
            run.refused(-6, "pipe", 0, HIGH);
        });
        CASES.promise(10, "set, wall and fill make no room for PIPES", run -> {
            sixPipes(run);
            run.ask("set", 0, 16);
            run.ask("fill");
            run.wall(3, "s16,2;ll;d20;");
            run.refused(-6, "pipe", 0, 0);
        });
        CASES.promise(10, "there is as much room as there was in the image", run -> {
            run.ask("image");
            sixPipes(run);
            run.refused(-6, "pipe", 0, 0);
            run.ask("on");
            run.due(0, "count", 3);
            run.due(0, "risk", 25);
            sixPipes(run);
            run.refused(-6, "pipe", 0, 0);
        });
    }

    private static void fractions() {
        both(14, "no such INCH and no such part", -1, "likely", 48, 2);
        both(14, "no such INCH below 0 and no such part below 0", -1, "likely", -1, -1);
        both(15, "no such what and i below -1", -2, "sure", 2, -2);
        both(15, "no such what below 0 and i the least int", -2, "sure", -1, LOW);
        both(19, "no such INCH and no such part", -1, "mean", 48, 2);
        both(19, "no such INCH below 0 and no such part below 0", -1, "mean", -1, -1);
        both(22, "no such KIND and no such part, once", -2, "worth", 5, 2);
        both(22, "no such KIND and no such part below 0, once", -2, "worth", -1, -1);
        both(28, "w below 1 and no such part", -4, "both", 0, 2);
        both(28, "w above 40 and no such part", -6, "both", 41, -1);
        both(31, "no such INCH y and no such INCH x, once", -1, "twinLikely", 48, 48, 0);
        both(31, "no such INCH y and no such part", -1, "twinLikely", -1, 0, 2);
        both(31, "no such INCH x and no such part", -1, "twinLikely", 0, -1, -1);
        both(31, "no such INCH either and no such part", -1, "twinLikely", LOW, HIGH, 2);
        both(34, "no such KIND and no such part, once", -2, "happened", 5, 2);
        both(34, "no such KIND and no such part below 0, once", -2, "happened", -1, -1);
        CASES.promise(34, "no such KIND with a number of no INCH in the ROW: -2", run -> {
            run.ask("row", 48);
            run.refused(-2, "happened", 5, 0);
            run.refused(-2, "happened", 0, 2);
        });
        CASES.promise(31, "no such part where none would be left: -2", run -> {
            run.ask("nail", 0, 1);
            run.dueFraction(0, 1, "twinLikely", 40, 0);
            run.refused(-2, "twinLikely", 40, 0, 2);
        });
    }

    private static void mirrors() {
        both(24, "s below 0 and m below 1, once", -4, "covers", -1, 0);
        both(24, "s below 0 and m above 40", -4, "covers", -1, 41);
        both(24, "m below 1 and s above 48", -4, "covers", 49, 0);
        both(24, "m the least int and s the greatest", -4, "covers", HIGH, LOW);
        both(24, "m above 40 and s and m above 48, once", -6, "covers", 8, 41);
        both(24, "m above 40, s and m not above 48", -6, "covers", 7, 41);
        both(24, "s and m above 48, m good", -6, "covers", 9, 40);
        both(24, "s and m together go over the greatest int", -6, "covers", HIGH, 40);
        both(24, "s and m both the greatest int", -6, "covers", HIGH, HIGH);
        both(26, "no such INCH and m below 1", -1, "middle", 0, 48);
        both(26, "no such INCH and m above 40", -1, "middle", 41, -1);
        both(29, "w below 1 and h below 0, once", -4, "wire", 0, -1);
        both(29, "w below 1 and h above 40", -4, "wire", 0, 41);
        both(29, "h below 0 and w above 40", -4, "wire", 41, -1);
        both(29, "w above 40 and h above 40, once", -6, "wire", 41, 41);
        both(29, "w and h the greatest int, once", -6, "wire", HIGH, HIGH);
        both(29, "w the greatest and h the least int", -4, "wire", HIGH, LOW);
    }

    private static void fullRow(Run run) {
        for (int n = 1; n <= 8; n++) {
            run.due(n, "row", n);
        }
    }

    private static void rows() {
        CASES.promise(32, "the eighth number has room, the ninth has none: -6", run -> {
            fullRow(run);
            run.refused(-6, "row", 0);
            run.refused(-6, "row", 99);
            run.due(8, "count", 8);
        });
        CASES.promise(32, "a number below 0 and 8 in the ROW: -4", run -> {
            fullRow(run);
            run.refused(-4, "row", -1);
            run.refused(-4, "row", LOW);
        });
        CASES.promise(32, "a number above 99 and 8 in the ROW: -6, once", run -> {
            fullRow(run);
            run.refused(-6, "row", 100);
            run.refused(-6, "row", HIGH);
        });
        CASES.promise(32, "there is room again behind judge()", run -> {
            fullRow(run);
            run.refused(-6, "row", 0);
            run.ask("judge");
            run.due(1, "row", 0);
        });
        CASES.promise(32, "old() and happened() make no room", run -> {
            fullRow(run);
            run.ask("old");
            run.ask("happened", 0, 0);
            run.refused(-6, "row", 0);
        });
        CASES.promise(32, "set, wall and on() make no room in the ROW", run -> {
            run.ask("image");
            fullRow(run);
            run.ask("set", 0, 16);
            run.wall(1, "ll;");
            run.ask("on");
            run.refused(-6, "row", 0);
        });
    }

    private static void images() {
        CASES.promise(38, "no IMAGE yet: -3", run -> {
            run.refused(-3, "on");
            run.refused(-3, "on");
            run.due(2, "count", 13);
        });
        CASES.promise(38, "no IMAGE yet on an object in use: -3", run -> {
            sixTellings(run);
            sixPipes(run);
            fullRow(run);
            run.refused(-3, "on");
        });
        CASES.promise(38, "with an IMAGE it is not refused, however often", run -> {
            run.refused(-3, "on");
            run.ask("image");
            run.due(0, "on");
            run.due(0, "on");
            run.due(1, "count", 13);
        });
    }

    private static void counted() {
        CASES.promise(39, "each refusal is counted under its own number", run -> {
            int[] made = {1, 2, 3, 4, 0, 5};
            run.times(1, "risk", 48);
            run.times(2, "tool", 5, 0);
            run.times(3, "on");
            run.times(4, "hang", 0);
            run.times(5, "hang", 41);
            for (int i = 0; i < 6; i++) {
                run.due(made[i], "count", 11 + i);
            }
        });
        CASES.promise(39, "refusals of longs are counted with the others", run -> {
            run.refused(-1, "weight", 16);
            run.refused(-1, "likely", 48, 0);
            run.refused(-2, "likely", 0, 2);
            run.refused(-4, "both", 0, 0);
            run.refused(-6, "both", 41, 0);
            int[] made = {2, 1, 0, 1, 0, 1};
            for (int i = 0; i < 6; i++) {
                run.due(made[i], "count", 11 + i);
            }
        });
        CASES.promise(39, "answers -9 and faults are no refusals", run -> {
            run.due(-9, "sure", 0, 0);
            run.due(-9, "judge");
            run.due(-9, "count", 10);
            run.ask("nail", 0, 0);
            run.ask("nail", 40, 0);
            run.due(-9, "middle", 40, 0);
            run.wall(-1000, "");
            run.wall(-2000, "n48+;");
            for (int what = 11; what <= 16; what++) {
                run.due(0, "count", what);
            }
        });
        CASES.promise(39, "refusals stay behind set, wall, image and on()", run -> {
            run.ask("image");
            run.refused(-1, "risk", 48);
            run.ask("set", 0, 6);
            run.wall(1, "ll;");
            run.ask("on");
            run.due(1, "count", 11);
            run.ask("image");
            run.refused(-1, "risk", 48);
            run.ask("on");
            run.due(2, "count", 11);
        });
    }
}
