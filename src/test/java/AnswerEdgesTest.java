/**
 * Questions, and the edges of their answers: none and all, the first and the last INCH, of several the
 * least, what goes around behind 47, an empty and a full ROW. All answers are worked out by hand.
 */
public final class AnswerEdgesTest {
    private static final int LOW = Integer.MIN_VALUE;
    private static final int HIGH = Integer.MAX_VALUE;
    private static final int[] NO_INCHES = {48, 49, 98, 99};
    private static final Cases CASES = new Cases();

    public static void main(String[] args) {
        likelihoods();
        sureInches();
        bestAndSafest();
        holesTillWood();
        from();
        nextTool();
        covers();
        hangs();
        middles();
        twoNails();
        wires();
        twins();
        oldHoles();
        happenings();
        judgements();
        lots();
        CASES.end(14, 15, 16, 17, 18, 19, 20, 21, 22, 23, 24, 25, 26, 27, 28, 29, 30, 31, 33, 34, 35, 36);
    }

    /** WOOD at each INCH by each OFFSET. */
    private static void allWood(Run run) {
        run.wall(2, "s6,4;lh;");
    }

    /** The beam of a door at the last INCH alone is sure. */
    private static void doorAtTheEnd(Run run) {
        run.wall(3, "s16,1;d47;ld;");
    }

    private static void likelihoods() {
        CASES.promise(14, "none: 0 by 1", run -> {
            run.ask("nail", 0, 0);
            run.dueFraction(0, 1, "likely", 0);
            run.dueFraction(0, 1, "likely", 32);
        });
        CASES.promise(14, "sure: 1 by 1", run -> {
            run.ask("nail", 47, 1);
            run.dueFraction(1, 1, "likely", 47);
            run.dueFraction(1, 1, "likely", 15);
        });
        CASES.promise(14, "sure at each INCH: 1 by 1", run -> {
            allWood(run);
            run.dueFraction(1, 1, "likely", 0);
            run.dueFraction(1, 1, "likely", 47);
        });
        CASES.promise(14, "least terms: 2 of 16 is 1 by 8, 1 of 24 stays", run -> {
            run.dueFraction(1, 8, "likely", 0);
            run.dueFraction(1, 8, "likely", 47);
            run.wall(1, "s24,1;");
            run.dueFraction(1, 24, "likely", 47);
        });
        CASES.promise(14, "the greatest WEIGHTS: six BORES", run -> {
            run.wall(1, "s24,1;");
            run.times(6, "telling", 4, 0, 1);
            run.dueFraction(531441, 531464, "likely", 0);
            run.dueFraction(1, 531464, "likely", 1);
        });
    }

    private static void sureInches() {
        CASES.promise(15, "none: 0, and no first", run -> {
            run.due(0, "sure", 0, -1);
            run.due(-9, "sure", 0, 0);
            run.due(0, "sure", 1, -1);
            run.due(-9, "sure", 1, 0);
        });
        CASES.promise(15, "all 48: the first is 0, the last 47, behind it -9", run -> {
            allWood(run);
            run.due(48, "sure", 0, -1);
            run.due(0, "sure", 0, 0);
            run.due(47, "sure", 0, 47);
            run.due(-9, "sure", 0, 48);
            run.due(0, "sure", 1, -1);
            run.due(-9, "sure", 1, 0);
        });
        CASES.promise(15, "by all: the first and the last, behind it -9", run -> {
            run.wall(2, "s24,1;n00+;");
            run.due(2, "sure", 0, -1);
            run.due(0, "sure", 0, 0);
            run.due(24, "sure", 0, 1);
            run.due(-9, "sure", 0, 2);
        });
        CASES.promise(15, "by none: the first and the last, behind it -9", run -> {
            run.wall(2, "s24,1;n00+;");
            run.due(46, "sure", 1, -1);
            run.due(1, "sure", 1, 0);
            run.due(23, "sure", 1, 22);
            run.due(25, "sure", 1, 23);
            run.due(47, "sure", 1, 45);
            run.due(-9, "sure", 1, 46);
            run.due(-9, "sure", 1, HIGH);
        });
        CASES.promise(15, "OFFSETS without WEIGHT do not count", run -> {
            run.ask("nail", 0, 0);
            run.due(3, "sure", 1, -1);
            run.due(32, "sure", 1, 2);
            run.due(-9, "sure", 1, 3);
        });
        CASES.promise(15, "OFFSETS with the least WEIGHT count", run -> {
            run.times(6, "telling", 4, 0, 1);
            run.due(0, "sure", 0, -1);
            run.due(0, "sure", 1, -1);
        });
        CASES.promise(15, "by SHORT there is none from 40 on", run -> {
            run.ask("set", 3, 5);
            run.due(8, "sure", 1, -1);
            run.due(40, "sure", 1, 0);
            run.due(47, "sure", 1, 7);
        });
    }

    private static void bestAndSafest() {
        CASES.promise(16, "all alike: the least, 0", run -> {
            run.due(0, "best");
            allWood(run);
            run.due(0, "best");
        });
        CASES.promise(16, "the last INCH alone is the likeliest: 47", run -> {
            doorAtTheEnd(run);
            run.due(47, "best");
        });
        CASES.promise(16, "of several the least", run -> {
            run.wall(2, "s24,1;n29+;");
            run.due(5, "best");
        });
        CASES.promise(16, "0 is out, 1 has one OFFSET, 2 has two", run -> {
            run.ask("nail", 0, 0);
            run.due(2, "best");
        });
        CASES.promise(17, "no PIPES: as BEST", run -> {
            run.due(0, "safest");
            doorAtTheEnd(run);
            run.due(47, "safest");
        });
        CASES.promise(17, "a PIPE with CHANCE 0 changes nothing, one with 1 does", run -> {
            run.ask("pipe", 0, 0);
            run.due(0, "safest");
            run.ask("pipe", 0, 1);
            run.due(1, "safest");
        });
        CASES.promise(17, "CHANCES of 9 leave a tenth, of 10 nothing", run -> {
            // At 0 and 24 WOOD is sure, everywhere else there is none.
            run.wall(5, "s24,1;n00+;p249;p009;p240;");
            run.due(0, "safest");
            run.ask("pipe", 0, 1);
            run.due(24, "safest");
            run.ask("pipe", 24, 1);
            run.due(0, "safest");
        });
        CASES.promise(17, "CHANCES above 10 count as nothing, not as less than it", run -> {
            run.wall(6, "s24,1;n00+;p009;p009;p249;p249;");
            run.due(0, "safest");
        });
        CASES.promise(17, "LIKELY times what is left: of several the least", run -> {
            // Sure at 0, 16 and 32 with 5 tenths left; half likely beside them with 10 left.
            run.wall(4, "n00+;p005;p165;p325;");
            run.due(0, "safest");
            run.ask("pipe", 0, 1);
            run.due(1, "safest");
        });
    }

    private static void holesTillWood() {
        CASES.promise(18, "WOOD at once: 1", run -> {
            run.ask("nail", 0, 1);
            run.due(1, "holes", 0);
            allWood(run);
            run.due(1, "holes", 47);
        });
        CASES.promise(18, "behind 48, the greatest, and not -9", run -> {
            // By the OFFSETS 16 to 23 there is WOOD at one INCH alone; one behind it all 48 are drilled.
            run.wall(2, "s24,1;ls;");
            run.due(48, "holes", 24);
            run.due(48, "holes", 17);
            run.due(47, "holes", 25);
            run.due(24, "holes", 16);
            run.wall(1, "n23+;");
            run.due(48, "holes", 24);
            run.due(1, "holes", 23);
        });
        CASES.promise(18, "behind 47 they go on at the beginning, BEAM inches further", run -> {
            run.ask("nail", 0, 1);
            // 47, then 1: by the OFFSET 0 there is WOOD at 1, by 15 at 47.
            run.due(2, "holes", 47);
            // 46, then 0.
            run.due(2, "holes", 46);
            run.wall(2, "s24,4;n00+;");
            // 46, then 2; 45, then 1; 47, then 3, which is no more WOOD by the OFFSET 21 (45 to 0) but 47 was.
            run.due(2, "holes", 46);
            run.due(2, "holes", 45);
            run.due(2, "holes", 47);
        });
        CASES.promise(18, "the worst OFFSET counts, if it has WEIGHT, however little", run -> {
            run.times(6, "telling", 4, 0, 1);
            run.due(8, "holes", 0);
            run.ask("nail", 0, 1);
            run.due(1, "holes", 0);
        });
        CASES.promise(19, "WOOD at once: 1 by 1", run -> {
            run.ask("nail", 0, 1);
            run.dueFraction(1, 1, "mean", 0);
        });
        CASES.promise(19, "behind 48 by the only OFFSET: 48 by 1", run -> {
            run.wall(3, "s24,1;ls;n23+;");
            run.dueFraction(48, 1, "mean", 24);
            run.dueFraction(1, 1, "mean", 23);
        });
        CASES.promise(19, "all OFFSETS, around behind 47", run -> {
            // From 24 on: 1 to 16 by the OFFSETS 0 to 15, 41 to 48 by the others: 492 by 24.
            run.wall(2, "s24,1;ls;");
            run.dueFraction(41, 2, "mean", 24);
        });
        CASES.promise(19, "OFFSETS count by their WEIGHTS", run -> {
            // Behind a BORE in WOOD at 0: 9 times 1, and 2 to 24 once each: 308 by 32.
            run.wall(2, "s24,1;t400+;");
            run.dueFraction(77, 8, "mean", 0);
        });
    }

    private static void from() {
        CASES.promise(20, "all alike: the least, 0", run -> {
            run.due(0, "from");
            allWood(run);
            run.due(0, "from");
        });
        CASES.promise(20, "the last INCH", run -> {
            doorAtTheEnd(run);
            run.due(47, "from");
        });
        CASES.promise(20, "the INCH behind the first", run -> {
            run.wall(2, "s24,1;n01+;");
            run.due(1, "from");
        });
        CASES.promise(20, "of several the least", run -> {
            run.wall(2, "s24,1;n29+;");
            run.due(5, "from");
        });
    }

    private static void nextTool() {
        CASES.promise(21, "all INCHES alike: the least, 0", run -> {
            for (int kind = 0; kind < 5; kind++) {
                run.due(0, "next", kind);
            }
        });
        CASES.promise(21, "nothing more to learn: the least, 0", run -> {
            run.wall(2, "s24,1;n29+;");
            for (int kind = 0; kind < 5; kind++) {
                run.due(0, "next", kind);
            }
        });
        CASES.promise(21, "0 tells nothing, 1 and those behind it are alike: the least, 1", run -> {
            run.wall(2, "s6,1;n00-;");
            for (int kind = 0; kind < 5; kind++) {
                run.due(1, "next", kind);
            }
        });
        CASES.promise(21, "asked by one LAW and then by another", run -> {
            run.ask("set", 3, 5);
            run.due(0, "next", 0);
            run.wall(2, "s24,1;ll;");
            for (int x = 0; x < 16; x++) {
                run.ask("nail", x, 0);
            }
            // From 0 to 15 nothing is to be learned, and 40 is as 16.
            run.due(16, "next", 0);
        });
        CASES.promise(22, "WOOD is sure at the first INCH alone: 0 by 1", run -> {
            run.wall(3, "s16,1;d00;ld;");
            for (int kind = 0; kind < 5; kind++) {
                run.dueFraction(0, 1, "worth", kind);
            }
        });
        CASES.promise(22, "WOOD is sure somewhere: 0 by 1", run -> {
            doorAtTheEnd(run);
            for (int kind = 0; kind < 5; kind++) {
                run.dueFraction(0, 1, "worth", kind);
            }
            allWood(run);
            run.dueFraction(0, 1, "worth", 4);
        });
        CASES.promise(22, "five OFFSETS of WEIGHT 1", run -> {
            // Told WOOD or NONE, the greatest is the tenths in WOOD or those where there is none, of 50.
            run.wall(2, "s6,1;n00-;");
            run.dueFraction(2, 25, "worth", 0);
            run.dueFraction(3, 50, "worth", 1);
            run.dueFraction(1, 10, "worth", 2);
            run.dueFraction(2, 25, "worth", 3);
            run.dueFraction(4, 25, "worth", 4);
        });
        CASES.promise(22, "the answer changes nothing: no HOLE, no telling", run -> {
            run.ask("worth", 4, 0);
            run.ask("next", 4);
            run.ask("kind");
            run.due(0, "count", 1);
            run.due(0, "count", 2);
            run.due(1, "weight", 0);
        });
        CASES.promise(22, "with USED 6 it is told all the same", run -> {
            run.wall(1, "s6,1;");
            run.times(6, "telling", 0, 0, 1);
            // 117649 to five times 729: no KNOCK can make another INCH the likeliest.
            run.dueFraction(0, 1, "worth", 0);
            run.due(0, "next", 0);
            run.good("kind");
        });
        CASES.promise(23, "no TOOL is worth anything: the first, 0", run -> {
            doorAtTheEnd(run);
            run.due(0, "kind");
            run.wall(3, "s24,1;ll;n05+;");
            run.due(0, "kind");
        });
        CASES.promise(23, "KNOCK and EAR are worth the same by what they cost: the first, 0", run -> {
            run.wall(2, "s6,1;n00-;");
            run.due(0, "kind");
        });
        oneHeavierOffset();
        CASES.promise(23, "the last by its number but for BORE", run -> {
            run.ask("telling", 0, 10, 1);
            run.ask("telling", 1, 26, 0);
            run.due(3, "kind");
        });
    }

    /**
     * The OFFSET 0 with a WEIGHT of W, five of 1. What a TOOL of a and b tenths adds to ten times W is b
     * less W times (10 less a) at 0, a less W times (10 less b) elsewhere, and nothing if that is below 0.
     */
    private static void oneHeavierOffset() {
        CASES.promise(23, "LAMP and EAR are worth the same by what they cost: the first, 2", run -> {
            run.wall(2, "s6,1;t300+;");
            run.due(2, "weight", 0);
            run.dueFraction(2, 35, "worth", 2);
            run.dueFraction(1, 35, "worth", 3);
            run.due(1, "next", 2);
            run.due(0, "next", 3);
            run.due(2, "kind");
        });
        CASES.promise(23, "LAMP and BORE are worth the same by what they cost: the first, 2", run -> {
            run.wall(2, "s6,1;t100+;");
            run.due(4, "weight", 0);
            run.dueFraction(1, 45, "worth", 2);
            run.dueFraction(1, 18, "worth", 4);
            run.due(2, "kind");
        });
        CASES.promise(23, "BORE alone is worth anything: the last, 4", run -> {
            run.wall(2, "s6,1;t200+;");
            run.due(6, "weight", 0);
            run.dueFraction(0, 1, "worth", 2);
            run.dueFraction(3, 110, "worth", 4);
            run.due(0, "next", 4);
            run.due(4, "kind");
        });
        CASES.promise(23, "behind a BORE in WOOD not even a BORE is: the first, 0", run -> {
            run.wall(2, "s6,1;t400+;");
            run.due(9, "weight", 0);
            run.dueFraction(0, 1, "worth", 4);
            run.due(0, "kind");
        });
    }

    private static void covers() {
        CASES.promise(24, "no HOLES: 0", run -> {
            run.due(0, "covers", 0, 40);
            run.due(0, "covers", 47, 1);
        });
        CASES.promise(24, "a HOLE at s and at s and m less 1 counts, at s less 1 and at s and m does not", run -> {
            run.ask("nail", 5, 0);
            run.due(0, "covers", 4, 1);
            run.due(1, "covers", 5, 1);
            run.due(0, "covers", 6, 1);
            run.due(0, "covers", 0, 5);
            run.due(1, "covers", 0, 6);
            run.due(1, "covers", 5, 40);
            run.due(0, "covers", 6, 40);
        });
        CASES.promise(24, "HOLES at 0 and 47: the widest MIRROR covers one of them or none", run -> {
            run.ask("nail", 0, 0);
            run.ask("nail", 47, 0);
            run.due(1, "covers", 0, 40);
            run.due(0, "covers", 1, 40);
            run.due(0, "covers", 7, 40);
            run.due(1, "covers", 8, 40);
            run.due(1, "covers", 47, 1);
        });
        CASES.promise(24, "a HOLE at 39 and at 40: the end of the widest MIRROR", run -> {
            run.ask("nail", 39, 0);
            run.ask("nail", 40, 0);
            run.due(1, "covers", 0, 40);
            run.due(2, "covers", 1, 40);
        });
    }

    private static void hangs() {
        CASES.promise(25, "no HOLES, all alike: the least, 0", run -> {
            run.due(0, "hang", 1);
            run.due(0, "hang", 40);
        });
        CASES.promise(25, "no HOLES: the likeliest WOOD is at 47, the last s", run -> {
            doorAtTheEnd(run);
            run.due(47, "hang", 1);
            run.due(46, "hang", 2);
            run.due(8, "hang", 40);
        });
        CASES.promise(25, "a HOLE at 47: the last s", run -> {
            run.ask("nail", 47, 0);
            run.due(47, "hang", 1);
            run.due(8, "hang", 40);
        });
        CASES.promise(25, "a HOLE at 0 goes ahead of WOOD that is sure", run -> {
            doorAtTheEnd(run);
            run.ask("nail", 0, 0);
            run.due(0, "hang", 1);
            run.due(0, "hang", 40);
        });
        CASES.promise(25, "as many HOLES: the likeliest WOOD, then the least", run -> {
            run.wall(2, "s24,1;t440+;");
            // A BORE tells WOOD at 40: the OFFSET 16 is likeliest, at 16 and 40; the HOLE is at 40.
            run.due(40, "hang", 1);
            run.due(31, "hang", 10);
            run.due(1, "hang", 40);
            run.ask("fill");
            run.due(16, "hang", 1);
            run.due(7, "hang", 10);
            run.due(0, "hang", 40);
        });
        CASES.promise(25, "HOLES at 0 and 47, one of them covered: the least", run -> {
            run.ask("nail", 0, 0);
            run.ask("nail", 47, 0);
            run.due(0, "hang", 40);
            run.due(0, "hang", 1);
        });
    }

    private static void middles() {
        CASES.promise(26, "no HOLES: each s, the ends of the wall", run -> {
            run.due(0, "middle", 1, 0);
            run.due(0, "middle", 40, 0);
            run.due(0, "middle", 40, 20);
            run.due(1, "middle", 40, 21);
            run.due(8, "middle", 40, 28);
            run.due(8, "middle", 40, 47);
        });
        CASES.promise(26, "as near on both sides: the least", run -> {
            run.due(23, "middle", 1, 24);
            run.due(46, "middle", 1, 47);
            run.due(19, "middle", 9, 24);
        });
        CASES.promise(26, "the middle is twice s, and m", run -> {
            run.due(0, "middle", 2, 1);
            run.due(23, "middle", 2, 24);
            run.due(46, "middle", 2, 47);
        });
        CASES.promise(26, "one HOLE: its own INCH for the narrowest MIRROR", run -> {
            run.ask("nail", 47, 0);
            run.due(47, "middle", 1, 0);
            run.due(8, "middle", 40, 0);
        });
        CASES.promise(26, "two HOLES that just fit, and that just do not: -9", run -> {
            run.ask("nail", 0, 0);
            run.ask("nail", 39, 0);
            run.due(0, "middle", 40, 47);
            run.due(-9, "middle", 39, 47);
            run.due(-9, "middle", 1, 0);
            run.ask("nail", 40, 0);
            run.due(-9, "middle", 40, 0);
        });
        CASES.promise(26, "two HOLES at the end of the wall that just fit", run -> {
            run.ask("nail", 8, 0);
            run.ask("nail", 47, 0);
            run.due(8, "middle", 40, 0);
            run.due(-9, "middle", 39, 0);
        });
        CASES.promise(26, "the ends of the s by which all HOLES are covered", run -> {
            run.ask("nail", 5, 0);
            run.ask("nail", 10, 0);
            run.due(1, "middle", 10, 0);
            run.due(5, "middle", 10, 47);
            run.due(5, "middle", 6, 0);
            run.due(5, "middle", 6, 47);
            run.due(-9, "middle", 5, 0);
        });
    }

    private static void twoNails() {
        CASES.promise(27, "none likely: the least, 0; 0 by 1", run -> {
            run.due(0, "two", 40);
            run.dueFraction(0, 1, "both", 40);
            run.due(0, "two", 9);
            run.dueFraction(0, 1, "both", 9);
        });
        CASES.promise(27, "40 apart, the last x is 7: 47 is the other", run -> {
            doorAtTheEnd(run);
            run.due(7, "two", 40);
            run.dueFraction(1, 16, "both", 40);
        });
        CASES.promise(27, "1 apart, the last x is 46: 47 is the other", run -> {
            doorAtTheEnd(run);
            run.due(46, "two", 1);
            run.dueFraction(1, 16, "both", 1);
        });
        CASES.promise(27, "both sure: 1 by 1, the least", run -> {
            allWood(run);
            run.due(0, "two", 1);
            run.dueFraction(1, 1, "both", 1);
            run.due(0, "two", 40);
            run.dueFraction(1, 1, "both", 40);
        });
        CASES.promise(27, "of several the least", run -> {
            run.wall(3, "s16,1;lc;n05-;");
            run.due(0, "two", 40);
            run.due(0, "two", 16);
        });
        CASES.promise(28, "1 apart in a BEAM of 2 and in one of 1", run -> {
            run.dueFraction(1, 16, "both", 1);
            run.ask("set", 1, 1);
            run.dueFraction(0, 1, "both", 1);
        });
        CASES.promise(28, "SPACE apart is as likely as one", run -> {
            run.dueFraction(1, 8, "both", 16);
            run.dueFraction(1, 8, "both", 32);
        });
    }

    private static void wires() {
        int[][] wires = {{1, 0, 1}, {2, 0, 2}, {40, 0, 40}, {3, 2, 5}, {40, 15, 50}, {1, 1, 3}, {1, 40, 81},
            {40, 1, 41}, {40, 40, 90}};
        for (int[] wire : wires) {
            CASES.promise(29, "w " + wire[0] + ", h " + wire[1] + ", rounded up if the root is not whole",
                    run -> run.due(wire[2], "wire", wire[0], wire[1]));
        }
    }

    private static void twins() {
        CASES.promise(30, "y 0 is 47 here, y 47 is 0", run -> {
            run.ask("nail", 0, 1);
            run.due(2, "twin", 47);
            run.due(1, "twin", 46);
            run.due(1, "twin", 0);
        });
        CASES.promise(30, "none would be left: 0, and nothing changes", run -> {
            run.ask("nail", 0, 1);
            run.due(0, "twin", 40);
            run.due(2, "count", 0);
            run.due(1, "count", 2);
        });
        CASES.promise(30, "all would be left", run -> {
            allWood(run);
            run.due(6, "twin", 0);
            run.due(6, "twin", 47);
        });
        CASES.promise(31, "none would be left: 0 by 1", run -> {
            run.ask("nail", 0, 1);
            run.dueFraction(0, 1, "twinLikely", 40, 7);
            run.dueFraction(0, 1, "twinLikely", 40, 0);
        });
        CASES.promise(31, "at the INCH behind y: 1 by 1, at the ends of the wall", run -> {
            run.dueFraction(1, 1, "twinLikely", 0, 47);
            run.dueFraction(1, 1, "twinLikely", 47, 0);
            run.dueFraction(1, 2, "twinLikely", 0, 46);
            run.dueFraction(0, 1, "twinLikely", 0, 0 + 2);
        });
    }

    private static void row(Run run, int... numbers) {
        for (int v : numbers) {
            run.ask("row", v);
        }
    }

    private static void oldHoles() {
        CASES.promise(33, "an empty ROW: all OFFSETS that have WEIGHT", run -> {
            run.due(65535, "old");
            run.ask("nail", 0, 0);
            run.due(32766, "old");
            run.ask("set", 0, 24);
            run.due(16777215, "old");
            run.ask("set", 0, 6);
            run.due(63, "old");
        });
        int[][] ends = {{0, 32766}, {47, 16383}, {50, 32769}, {97, 49152}};
        for (int[] end : ends) {
            CASES.promise(33, "the number " + end[0] + ", of the first or the last INCH", run -> {
                row(run, end[0]);
                run.due(end[1], "old");
                run.due(1, "count", 8);
            });
        }
        for (int none : NO_INCHES) {
            CASES.promise(33, "the number " + none + " of no INCH: 0", run -> {
                row(run, none);
                run.due(0, "old");
                row(run, 5);
                run.due(0, "old");
            });
        }
        CASES.promise(33, "a full ROW: the eighth number counts", run -> {
            row(run, 2, 3, 4, 5, 6, 7, 8);
            run.due(1 + (1 << 9) + (63 << 10), "old");
            row(run, 50);
            run.due(32769, "old");
            run.due(8, "count", 8);
        });
        CASES.promise(33, "numbers against one another: 0", run -> {
            row(run, 0, 50);
            run.due(0, "old");
        });
        CASES.promise(33, "OFFSETS without WEIGHT are not among them", run -> {
            run.ask("nail", 1, 1);
            row(run, 50);
            run.due(1, "old");
            row(run, 51);
            run.due(1, "old");
            row(run, 1);
            run.due(0, "old");
        });
    }

    private static void happenings() {
        CASES.promise(34, "an empty ROW: 1 by 1", run -> {
            for (int kind = 0; kind < 5; kind++) {
                run.dueFraction(1, 1, "happened", kind);
            }
        });
        for (int none : NO_INCHES) {
            CASES.promise(34, "the number " + none + " of no INCH: 0 by 1, first or last", run -> {
                row(run, none);
                run.dueFraction(0, 1, "happened", 0);
                row(run, 1, 2, 3, 4, 5, 6, 7);
                run.dueFraction(0, 1, "happened", 4);
                run.ask("judge");
                row(run, 1, 2, 3, 4, 5, 6, 7, none);
                run.dueFraction(0, 1, "happened", 4);
                run.due(8, "count", 8);
            });
        }
        CASES.promise(34, "two numbers of no INCH, and eight: 0 by 1", run -> {
            row(run, 48, 98);
            run.dueFraction(0, 1, "happened", 0);
            row(run, 49, 99, 48, 49, 98, 99);
            run.dueFraction(0, 1, "happened", 0);
            run.due(0, "old");
            run.due(0, "judge");
        });
        CASES.promise(34, "numbers of the last INCH", run -> {
            row(run, 97);
            run.dueFraction(7, 20, "happened", 0);
            run.ask("judge");
            row(run, 47);
            run.dueFraction(13, 20, "happened", 0);
        });
        CASES.promise(34, "numbers against one another can be told", run -> {
            row(run, 0, 50);
            run.dueFraction(21, 100, "happened", 0);
        });
        CASES.promise(34, "a full ROW where WOOD is sure", run -> {
            run.ask("nail", 0, 1);
            row(run, 50, 50, 50, 50, 50, 50, 50, 50);
            run.dueFraction(5764801, 100000000, "happened", 0);
            run.dueFraction(256, 390625, "happened", 1);
            run.dueFraction(6561, 390625, "happened", 2);
            run.dueFraction(65536, 390625, "happened", 3);
            run.dueFraction(43046721, 100000000, "happened", 4);
        });
        CASES.promise(34, "a full ROW where there is none for sure", run -> {
            run.ask("nail", 0, 1);
            row(run, 2, 2, 2, 2, 2, 2, 2, 2);
            run.dueFraction(5764801, 100000000, "happened", 0);
            run.dueFraction(43046721, 100000000, "happened", 1);
            run.dueFraction(6561, 390625, "happened", 3);
        });
        CASES.promise(34, "it changes nothing: no HOLE, no telling, the ROW stays", run -> {
            row(run, 50);
            run.ask("happened", 4, 0);
            run.due(0, "count", 1);
            run.due(0, "count", 2);
            run.due(1, "count", 8);
            run.due(1, "weight", 0);
        });
    }

    /** The judgement, and that the ROW has none behind it. */
    private static void dueJudge(Run run, int want, int... numbers) {
        row(run, numbers);
        run.due(want, "judge");
        run.due(0, "count", 8);
        run.due(-9, "judge");
    }

    private static void judgements() {
        CASES.promise(35, "an empty ROW: -9", run -> dueJudge(run, -9));
        CASES.promise(35, "the first place, 0", run -> {
            run.ask("nail", 0, 1);
            dueJudge(run, 0, 52);
            dueJudge(run, 0, 0, 48);
        });
        CASES.promise(35, "the last place, 7", run -> dueJudge(run, 7, 50, 2, 3, 4, 5, 6, 7, 58));
        CASES.promise(35, "a full ROW in which all can be: -9", run -> dueJudge(run, -9, 50, 2, 3, 4, 5, 6, 7, 8));
        CASES.promise(35, "all ahead of it being so", run -> {
            // WOOD at 0 and none at 1 leave the OFFSET 15; NONE at 0 could be alone, and is against the first.
            dueJudge(run, 2, 50, 1, 0);
            dueJudge(run, -9, 1, 50);
            dueJudge(run, 1, 0, 50);
        });
        CASES.promise(35, "of two that can not be the first", run -> dueJudge(run, 1, 50, 52, 99));
        for (int none : NO_INCHES) {
            CASES.promise(35, "the number " + none + " of no INCH can not be, at each place", run -> {
                dueJudge(run, 0, none);
                dueJudge(run, 1, 1, none);
                dueJudge(run, 7, 1, 2, 3, 4, 5, 6, 7, none);
            });
        }
        CASES.promise(35, "the numbers of the last INCH can be", run -> {
            dueJudge(run, -9, 47);
            dueJudge(run, -9, 97);
            dueJudge(run, 1, 97, 47);
        });
        CASES.promise(35, "by what NAILS told before", run -> {
            run.ask("nail", 0, 0);
            dueJudge(run, 0, 66);
            dueJudge(run, -9, 16);
        });
        CASES.promise(35, "nothing is nailed: WEIGHTS and HOLES stay", run -> {
            dueJudge(run, -9, 50, 2);
            run.due(16, "count", 0);
            run.due(0, "count", 2);
        });
    }

    private static void lots() {
        // z 0 becomes 1013904223, by 256 3960563, modulo 16 the OFFSET 3: NAILS at 0, 2 and 4.
        CASES.promise(36, "one wall, z 0", run -> run.due(3, "lots", 1, 0));
        // z -1 becomes 1012239698, by 256 3954061, modulo 16 the OFFSET 13: NAILS at 0, 2 .. 14.
        CASES.promise(36, "one wall, z -1", run -> run.due(8, "lots", 1, -1));
        CASES.promise(36, "z the greatest int goes over it; its sign's bit does not count",
                run -> run.due(8, "lots", 1, HIGH));
        CASES.promise(36, "z the least int goes over it; its sign's bit does not count",
                run -> run.due(3, "lots", 1, LOW));
        for (int z : new int[] {0, 1, -1, LOW, HIGH, 305419896, -305419896}) {
            CASES.promise(36, "z " + z + " goes on from wall to wall, up to 30", run -> {
                for (int n : new int[] {1, 2, 29, 30}) {
                    run.due(nailsByHand(n, z, 16), "lots", n, z);
                }
            });
            CASES.promise(36, "z " + z + " with SPACE 24 and BEAM 1: up to 24 NAILS a wall", run -> {
                run.wall(1, "s24,1;");
                run.due(nailsByHand(30, z, 24), "lots", 30, z);
            });
        }
        CASES.promise(36, "WOOD is sure: one NAIL a wall, 1 and 30", run -> {
            allWood(run);
            run.due(1, "lots", 1, 5);
            run.due(30, "lots", 30, 5);
        });
        CASES.promise(36, "from WEIGHTS 1, whatever NAILS and tellings told, and nothing changes", run -> {
            run.ask("nail", 6, 1);
            run.ask("telling", 4, 6, 1);
            run.due(3, "lots", 1, 0);
            run.due(8, "lots", 1, -1);
            run.due(2, "count", 0);
            run.due(1, "count", 1);
            run.due(1, "count", 2);
        });
    }

    /** With BEAMS of 2 in 16 each NAIL at 0, 2 .. 14 rules out two OFFSETS, with 1 in 24 each one. */
    private static int nailsByHand(int n, int z, int space) {
        int nails = 0;
        long seed = z;
        for (int i = 0; i < n; i++) {
            seed = (seed * 1664525L + 1013904223L) & 0xffffffffL;
            long offset = (seed & 0x7fffffffL) / 256 % space;
            nails += space == 24 ? offset + 1 : offset == 15 ? 1 : (offset + 1) / 2 + 1;
        }
        return nails;
    }
}
