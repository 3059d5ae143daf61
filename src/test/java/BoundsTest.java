import java.util.Arrays;

/**
 * Each argument of each call: the last number that is good and the first that is not, on both sides,
 * and the least and the greatest int; on a new object and on one in use. Behind a refusal nothing has
 * changed but how many there were.
 */
public final class BoundsTest {
    private static final int LOW = Integer.MIN_VALUE;
    private static final int HIGH = Integer.MAX_VALUE;
    private static final int ANY = 0;
    private static final Cases CASES = new Cases();

    public static void main(String[] args) {
        lettersAndMeasures();
        tools();
        inches();
        offsets();
        kindsAndParts();
        mirrorsAndNails();
        rowAndLots();
        whatIsNoRefusal();
        CASES.end(2, 4, 5, 6, 7, 8, 9, 10, 11, 12, 14, 15, 18, 19, 21, 22, 24, 25, 26, 27, 28, 29, 30, 31, 32, 34, 36, 39);
    }

    private static void inUse(Run run) {
        run.wall(8, "s16,2;d07;lr;t010+;t425-;n30-;p057;p479;");
        run.ask("image");
        run.ask("telling", 2, 40, 0);
        run.ask("nail", 12, 0);
        run.ask("pipe", 3, 4);
        run.ask("row", 53);
        run.ask("row", 7);
        run.letters("t0");
    }

    /** The argument at a place; below and above are the refusals, the other arguments are good. */
    private static void bounds(int promise, String call, int at, int least, int greatest, int below, int above,
            int... good) {
        String name = call.substring(0, call.indexOf('('));
        String argument = call.substring(call.indexOf('(') + 1, call.length() - 1).split(", ")[at];
        String others = good.length == 1 ? "" : " in " + name + Arrays.toString(good);
        for (boolean isUsed : new boolean[] {false, true}) {
            String where = call + others + (isUsed ? " in use" : "") + ": " + argument + " ";
            accepts(promise, where + least + ", the least", isUsed, name, with(good, at, least));
            accepts(promise, where + greatest + ", the greatest", isUsed, name, with(good, at, greatest));
            rejects(promise, where + (least - 1) + ", below the least", isUsed, below, name, with(good, at, least - 1));
            rejects(promise, where + "the least int", isUsed, below, name, with(good, at, LOW));
            rejects(promise, where + (greatest + 1) + ", above the greatest", isUsed, above, name,
                    with(good, at, greatest + 1));
            rejects(promise, where + "the greatest int", isUsed, above, name, with(good, at, HIGH));
        }
    }

    private static int[] with(int[] good, int at, int v) {
        int[] a = good.clone();
        a[at] = v;
        return a;
    }

    private static void accepts(int promise, String what, boolean isUsed, String name, int[] a) {
        CASES.promise(promise, what + ", is good", run -> {
            if (isUsed) {
                inUse(run);
            }
            run.good(name, a);
        });
    }

    private static void rejects(int promise, String what, boolean isUsed, int number, String name, int[] a) {
        CASES.promise(promise, what + ", is refused by " + number, run -> {
            if (isUsed) {
                inUse(run);
            }
            run.refused(number, name, a);
        });
    }

    private static void lettersAndMeasures() {
        bounds(2, "letter(c)", 0, 0, 255, -4, -6, ANY);
        // No v is good for each what, so that these are held apart by hand.
        for (int what : new int[] {-1, 4, LOW, HIGH}) {
            for (int v : new int[] {0, 1, 6}) {
                String where = "set(what, v): what " + what + " with v " + v;
                rejects(4, where, false, -2, "set", new int[] {what, v});
                rejects(4, where + " in use", true, -2, "set", new int[] {what, v});
            }
        }
        bounds(4, "set(what, v)", 1, 6, 24, -4, -6, 0, ANY);
        bounds(4, "set(what, v)", 1, 1, 4, -4, -6, 1, ANY);
        bounds(4, "set(what, v)", 1, 0, 47, -4, -6, 2, ANY);
        bounds(4, "set(what, v)", 1, 0, 5, -4, -6, 3, ANY);
    }

    private static void tools() {
        bounds(7, "tool(kind, what)", 0, 0, 4, -2, -2, ANY, 0);
        bounds(7, "tool(kind, what)", 0, 0, 4, -2, -2, ANY, 2);
        bounds(7, "tool(kind, what)", 1, 0, 2, -2, -2, 0, ANY);
        bounds(7, "tool(kind, what)", 1, 0, 2, -2, -2, 4, ANY);
        bounds(8, "telling(kind, x, is)", 0, 0, 4, -2, -2, ANY, 0, 0);
        bounds(8, "telling(kind, x, is)", 0, 0, 4, -2, -2, ANY, 47, 1);
        bounds(8, "telling(kind, x, is)", 1, 0, 47, -1, -1, 0, ANY, 0);
        bounds(8, "telling(kind, x, is)", 1, 0, 47, -1, -1, 4, ANY, 1);
        bounds(8, "telling(kind, x, is)", 2, 0, 1, -2, -2, 0, 0, ANY);
        bounds(8, "telling(kind, x, is)", 2, 0, 1, -2, -2, 4, 47, ANY);
    }

    private static void inches() {
        bounds(9, "nail(x, is)", 0, 0, 47, -1, -1, ANY, 0);
        bounds(9, "nail(x, is)", 0, 0, 47, -1, -1, ANY, 1);
        bounds(9, "nail(x, is)", 1, 0, 1, -2, -2, 20, ANY);
        bounds(10, "pipe(x, chance)", 0, 0, 47, -1, -1, ANY, 5);
        bounds(10, "pipe(x, chance)", 1, 0, 9, -4, -6, 0, ANY);
        bounds(11, "risk(x)", 0, 0, 47, -1, -1, ANY);
        bounds(12, "hole(x)", 0, 0, 47, -1, -1, ANY);
        bounds(14, "likely(x, part)", 0, 0, 47, -1, -1, ANY, 0);
        bounds(14, "likely(x, part)", 0, 0, 47, -1, -1, ANY, 1);
        bounds(18, "holes(x)", 0, 0, 47, -1, -1, ANY);
        bounds(19, "mean(x, part)", 0, 0, 47, -1, -1, ANY, 0);
        bounds(26, "middle(m, w)", 1, 0, 47, -1, -1, 1, ANY);
        bounds(26, "middle(m, w)", 1, 0, 47, -1, -1, 40, ANY);
        bounds(30, "twin(y)", 0, 0, 47, -1, -1, ANY);
        bounds(31, "twinLikely(y, x, part)", 0, 0, 47, -1, -1, ANY, 0, 0);
        bounds(31, "twinLikely(y, x, part)", 1, 0, 47, -1, -1, 0, ANY, 1);
    }

    private static void offsets() {
        bounds(5, "wood(x, offset)", 0, 0, 47, -1, -1, ANY, 0);
        bounds(5, "wood(x, offset)", 1, 0, 15, -1, -1, 0, ANY);
        bounds(6, "weight(offset)", 0, 0, 15, -1, -1, ANY);
        for (int space : new int[] {6, 7, 23, 24}) {
            CASES.promise(5, "wood(x, offset): with spaces of " + space + " there is the OFFSET " + (space - 1), run -> {
                run.ask("set", 0, space);
                run.good("wood", 47, space - 1);
                run.refused(-1, "wood", 47, space);
            });
            CASES.promise(6, "weight(offset): with spaces of " + space + " there is the OFFSET " + (space - 1), run -> {
                run.ask("set", 0, space);
                run.due(1, "weight", space - 1);
                run.refused(-1, "weight", space);
            });
            CASES.promise(6, "weight(offset): with spaces of " + space + " told in letters, likewise", run -> {
                run.wall(1, "s" + space + ",1;");
                run.due(1, "weight", space - 1);
                run.refused(-1, "weight", space);
            });
        }
        CASES.promise(6, "weight(offset): OFFSETS that went with a smaller SPACE are gone", run -> {
            run.ask("set", 0, 24);
            run.due(1, "weight", 23);
            run.ask("set", 0, 6);
            run.refused(-1, "weight", 23);
            run.refused(-1, "weight", 6);
            run.refused(-1, "wood", 0, 6);
        });
        CASES.promise(6, "weight(offset): OFFSETS come and go with the SPACE of an image", run -> {
            run.ask("set", 0, 24);
            run.ask("image");
            run.ask("set", 0, 6);
            run.refused(-1, "weight", 23);
            run.ask("on");
            run.due(1, "weight", 23);
            run.refused(-1, "weight", 24);
        });
    }

    private static void kindsAndParts() {
        bounds(14, "likely(x, part)", 1, 0, 1, -2, -2, 0, ANY);
        bounds(19, "mean(x, part)", 1, 0, 1, -2, -2, 47, ANY);
        bounds(15, "sure(what, i)", 0, 0, 1, -2, -2, ANY, -1);
        bounds(15, "sure(what, i)", 0, 0, 1, -2, -2, ANY, 0);
        bounds(21, "next(kind)", 0, 0, 4, -2, -2, ANY);
        bounds(22, "worth(kind, part)", 0, 0, 4, -2, -2, ANY, 0);
        bounds(22, "worth(kind, part)", 1, 0, 1, -2, -2, 4, ANY);
        bounds(28, "both(w, part)", 1, 0, 1, -2, -2, 40, ANY);
        bounds(31, "twinLikely(y, x, part)", 2, 0, 1, -2, -2, 47, 47, ANY);
        bounds(34, "happened(kind, part)", 0, 0, 4, -2, -2, ANY, 0);
        bounds(34, "happened(kind, part)", 1, 0, 1, -2, -2, 4, ANY);
    }

    private static void mirrorsAndNails() {
        bounds(24, "covers(s, m)", 0, 0, 47, -4, -6, ANY, 1);
        bounds(24, "covers(s, m)", 0, 0, 28, -4, -6, ANY, 20);
        bounds(24, "covers(s, m)", 0, 0, 8, -4, -6, ANY, 40);
        bounds(24, "covers(s, m)", 1, 1, 40, -4, -6, 0, ANY);
        bounds(24, "covers(s, m)", 1, 1, 40, -4, -6, 8, ANY);
        bounds(24, "covers(s, m)", 1, 1, 39, -4, -6, 9, ANY);
        bounds(24, "covers(s, m)", 1, 1, 1, -4, -6, 47, ANY);
        bounds(25, "hang(m)", 0, 1, 40, -4, -6, ANY);
        bounds(26, "middle(m, w)", 0, 1, 40, -4, -6, ANY, 0);
        bounds(26, "middle(m, w)", 0, 1, 40, -4, -6, ANY, 47);
        bounds(27, "two(w)", 0, 1, 40, -4, -6, ANY);
        bounds(28, "both(w, part)", 0, 1, 40, -4, -6, ANY, 0);
        bounds(28, "both(w, part)", 0, 1, 40, -4, -6, ANY, 1);
        bounds(29, "wire(w, h)", 0, 1, 40, -4, -6, ANY, 0);
        bounds(29, "wire(w, h)", 0, 1, 40, -4, -6, ANY, 40);
        bounds(29, "wire(w, h)", 1, 0, 40, -4, -6, 1, ANY);
        bounds(29, "wire(w, h)", 1, 0, 40, -4, -6, 40, ANY);
    }

    private static void rowAndLots() {
        bounds(32, "row(v)", 0, 0, 99, -4, -6, ANY);
        bounds(36, "lots(n, z)", 0, 1, 30, -4, -6, ANY, 0);
        bounds(36, "lots(n, z)", 0, 1, 30, -4, -6, ANY, HIGH);
    }

    /** Arguments that have no greatest or no least: what is out of reach has an answer, no refusal. */
    private static void whatIsNoRefusal() {
        for (int what = 0; what < 2; what++) {
            int each = what;
            CASES.promise(15, "sure(" + what + ", i): i -1, the least, is how many", run -> run.due(0, "sure", each, -1));
            CASES.promise(15, "sure(" + what + ", i): i -2 is refused by -4", run -> run.refused(-4, "sure", each, -2));
            CASES.promise(15, "sure(" + what + ", i): i the least int is refused by -4",
                    run -> run.refused(-4, "sure", each, LOW));
            CASES.promise(15, "sure(" + what + ", i): i has no greatest, -9 none such", run -> {
                run.due(-9, "sure", each, 0);
                run.due(-9, "sure", each, 47);
                run.due(-9, "sure", each, 48);
                run.due(-9, "sure", each, HIGH);
                run.good("sure", each, HIGH);
            });
        }
        for (int z : new int[] {0, -1, LOW, HIGH}) {
            CASES.promise(36, "lots(n, z): z " + z + " is good, as each int", run -> run.good("lots", 30, z));
        }
        for (int what : new int[] {-1, 10, 17, LOW, HIGH}) {
            CASES.promise(39, "count(what): another what, " + what + ", is -9 and counts as no refusal", run -> {
                run.due(-9, "count", what);
                run.good("count", what);
            });
        }
        for (int what : new int[] {0, 9, 11, 16}) {
            CASES.promise(39, "count(what): " + what + ", at an end of its numbers", run -> {
                inUse(run);
                run.refused(-1, "risk", 48);
                run.refused(-6, "hang", 41);
                run.refused(-6, "hang", 41);
                // By the nails at 30 and 12 the OFFSETS 0 to 3 are out; two letters were told.
                run.due(what == 0 ? 12 : what == 11 ? 1 : 2, "count", what);
            });
        }
    }
}
