/**
 * What there is, and its edges: a new object, measures, LAWS with their wrap-arounds, TOOLS, tellings,
 * NAILS, PIPES, HOLES, images. All answers are worked out by hand.
 */
public final class WallEdgesTest {
    private static final Cases CASES = new Cases();

    public static void main(String[] args) {
        newObject();
        measures();
        leftAndRight();
        doors();
        corners();
        halves();
        shorts();
        tools();
        weights();
        nails();
        pipes();
        holes();
        images();
        counts();
        CASES.end(1, 4, 5, 6, 7, 8, 9, 10, 11, 12, 13, 37, 38, 39);
    }

    private static void measure(Run run, int space, int beam, int door, int law) {
        run.ask("set", 0, space);
        run.ask("set", 1, beam);
        run.ask("set", 2, door);
        run.ask("set", 3, law);
    }

    /** The wall as it is by an OFFSET, # for WOOD. */
    private static void dueWoods(Run run, int offset, String wall) {
        Checks.due("inches of " + wall, wall.length(), 48);
        for (int x = 0; x < 48; x++) {
            run.due(wall.charAt(x) == '#' ? 1 : 0, "wood", x, offset);
        }
    }

    private static void newObject() {
        CASES.promise(1, "SPACE 16, BEAM 2, DOOR 20, LAW l at first", run -> {
            run.due(16, "count", 4);
            run.due(2, "count", 5);
            run.due(20, "count", 6);
            run.due(0, "count", 7);
        });
        CASES.promise(1, "all OFFSETS have WEIGHT 1 at first", run -> {
            run.due(16, "count", 0);
            for (int o = 0; o < 16; o++) {
                run.due(1, "weight", o);
            }
        });
        CASES.promise(1, "no telling, no HOLE, no PIPE at first", run -> {
            run.due(0, "count", 1);
            run.due(0, "count", 2);
            run.due(0, "count", 3);
            for (int x = 0; x < 48; x++) {
                run.due(0, "hole", x);
                run.due(0, "risk", x);
            }
        });
        CASES.promise(1, "nothing in the ROW, no letters, no IMAGE at first", run -> {
            run.due(0, "count", 8);
            run.due(0, "count", 9);
            run.due(-1000, "wall");
            run.due(-9, "judge");
            run.due(-3, "on");
        });
        CASES.promise(1, "no REFUSALS at first", run -> {
            for (int what = 11; what <= 16; what++) {
                run.due(0, "count", what);
            }
        });
        CASES.promise(1, "two objects have nothing in common", run -> {
            Run other = new Run();
            run.ask("set", 0, 6);
            run.ask("nail", 0, 1);
            run.ask("image");
            run.ask("row", 1);
            run.letters("x");
            other.due(16, "count", 0);
            other.due(0, "count", 8);
            other.due(0, "count", 9);
            other.refused(-3, "on");
        });
    }

    private static void measures() {
        CASES.promise(4, "answers what it was, at the ends of SPACE", run -> {
            run.due(16, "set", 0, 6);
            run.due(6, "set", 0, 24);
            run.due(24, "set", 0, 24);
            run.due(24, "count", 4);
        });
        CASES.promise(4, "answers what it was, at the ends of BEAM", run -> {
            run.due(2, "set", 1, 1);
            run.due(1, "set", 1, 4);
            run.due(4, "set", 1, 4);
        });
        CASES.promise(4, "answers what it was, at the ends of DOOR", run -> {
            run.due(20, "set", 2, 0);
            run.due(0, "set", 2, 47);
            run.due(47, "set", 2, 47);
        });
        CASES.promise(4, "answers what it was, at the ends of the LAWS", run -> {
            run.due(0, "set", 3, 5);
            run.due(5, "set", 3, 0);
            run.due(0, "set", 3, 0);
        });
        for (int what = 0; what < 4; what++) {
            int each = what;
            CASES.promise(4, "a measure " + what + " that becomes what it was makes WEIGHTS 1 and USED 0 too", run -> {
                run.ask("telling", 0, 3, 1);
                run.ask("nail", 9, 0);
                run.ask("set", each, (int) run.ask("count", 4 + each));
                run.due(16, "count", 0);
                run.due(0, "count", 1);
                run.due(1, "weight", 3);
                run.due(1, "weight", 9);
            });
        }
        CASES.promise(4, "HOLES, PIPES, the ROW, letters and the IMAGE stay", run -> {
            run.ask("image");
            run.ask("nail", 9, 0);
            run.ask("pipe", 9, 9);
            run.ask("row", 9);
            run.letters("l");
            run.ask("set", 0, 24);
            run.due(1, "hole", 9);
            run.due(9, "risk", 9);
            run.due(1, "count", 8);
            run.due(1, "count", 9);
            run.due(0, "on");
            run.due(16, "count", 4);
        });
        CASES.promise(4, "SPACE from 6 to 24: all new OFFSETS have WEIGHT 1", run -> {
            run.ask("set", 0, 6);
            run.due(6, "count", 0);
            run.ask("nail", 0, 0);
            run.ask("set", 0, 24);
            run.due(24, "count", 0);
            for (int o = 0; o < 24; o++) {
                run.due(1, "weight", o);
            }
        });
    }

    private static void leftAndRight() {
        CASES.promise(5, "LEFT: x below the OFFSET goes around by SPACE", run -> {
            run.due(1, "wood", 0, 0);
            run.due(0, "wood", 0, 1);
            run.due(0, "wood", 0, 14);
            run.due(1, "wood", 0, 15);
        });
        CASES.promise(5, "LEFT: the last inch of a BEAM and the first behind it", run -> {
            run.due(1, "wood", 5, 5);
            run.due(1, "wood", 6, 5);
            run.due(0, "wood", 7, 5);
            run.due(0, "wood", 20, 5);
            run.due(1, "wood", 21, 5);
            run.due(1, "wood", 47, 15);
        });
        CASES.promise(5, "LEFT: the widest BEAM in the narrowest SPACE goes around", run -> {
            measure(run, 6, 4, 20, 0);
            dueWoods(run, 0, "####..####..####..####..####..####..####..####..");
            dueWoods(run, 5, "###..####..####..####..####..####..####..####..#");
        });
        CASES.promise(5, "LEFT: the narrowest BEAM in the widest SPACE", run -> {
            measure(run, 24, 1, 20, 0);
            dueWoods(run, 0, "#.......................#.......................");
            dueWoods(run, 23, ".......................#.......................#");
        });
        CASES.promise(5, "LEFT: the widest BEAM in the widest SPACE goes around", run -> {
            measure(run, 24, 4, 20, 0);
            dueWoods(run, 20, "....................####....................####");
            dueWoods(run, 23, "###....................####....................#");
        });
        CASES.promise(5, "RIGHT: 47 is its first INCH, 0 its last", run -> {
            run.ask("set", 3, 1);
            dueWoods(run, 0, "..............##..............##..............##");
            dueWoods(run, 15, "#..............##..............##..............#");
        });
        CASES.promise(5, "RIGHT: a SPACE that does not divide 48", run -> {
            measure(run, 20, 3, 20, 1);
            dueWoods(run, 0, ".....###.................###.................###");
            dueWoods(run, 19, "......###.................###.................##");
        });
    }

    private static void doors() {
        CASES.promise(5, "DOORED: from DOOR on BEAM inches by each OFFSET, none ahead and none behind", run -> {
            run.ask("set", 3, 2);
            for (int o = 0; o < 16; o++) {
                run.due(1, "wood", 20, o);
                run.due(1, "wood", 21, o);
                run.due(o == 3 || o == 2 ? 1 : 0, "wood", 19, o);
                run.due(o == 6 || o == 5 ? 1 : 0, "wood", 22, o);
            }
        });
        CASES.promise(5, "DOORED: a DOOR at 0", run -> {
            measure(run, 24, 4, 0, 2);
            dueWoods(run, 10, "####......####....................####..........");
        });
        CASES.promise(5, "DOORED: a DOOR at 47 ends with the wall, and does not go around", run -> {
            measure(run, 24, 4, 47, 2);
            dueWoods(run, 10, "..........####....................####.........#");
        });
        CASES.promise(5, "LEFT, RIGHT, CORNERED and SHORT have no DOOR", run -> {
            for (int law : new int[] {0, 1, 3, 5}) {
                run.ask("set", 3, law);
                run.due(0, "wood", 20, 0);
                run.due(0, "wood", 21, 0);
            }
        });
    }

    private static void corners() {
        CASES.promise(5, "CORNERED: x below BEAM and above 47 less BEAM, BEAM 1", run -> {
            measure(run, 16, 1, 20, 3);
            dueWoods(run, 5, "#.........#...............#...............#....#");
        });
        CASES.promise(5, "CORNERED: x below BEAM and above 47 less BEAM, BEAM 2", run -> {
            run.ask("set", 3, 3);
            dueWoods(run, 5, "##.......##..............##..............##...##");
        });
        CASES.promise(5, "CORNERED: x below BEAM and above 47 less BEAM, BEAM 4", run -> {
            measure(run, 24, 4, 20, 3);
            dueWoods(run, 10, "####......####....................####......####");
        });
        CASES.promise(5, "CORNERED goes by RIGHT, not by LEFT", run -> {
            run.ask("set", 3, 3);
            run.due(0, "wood", 16, 0);
            run.due(1, "wood", 15, 0);
        });
    }

    private static void halves() {
        CASES.promise(5, "HALVED: half of an even SPACE", run -> {
            measure(run, 16, 1, 0, 4);
            // The door at 0 is WOOD at 0; 8 inches ahead of it there is no wall.
            dueWoods(run, 3, "#..#.......#.......#.......#.......#.......#....");
        });
        CASES.promise(5, "HALVED: half of an odd SPACE is cut", run -> {
            measure(run, 7, 1, 0, 4);
            dueWoods(run, 0, "#...#..#...#..#...#..#...#..#...#..#...#..#...#.");
        });
        CASES.promise(5, "HALVED: x and half of SPACE may be behind the last INCH", run -> {
            measure(run, 24, 1, 0, 4);
            run.due(1, "wood", 47, 11);
            run.due(1, "wood", 36, 0);
            run.due(1, "wood", 46, 10);
            run.due(0, "wood", 47, 10);
        });
        CASES.promise(5, "HALVED: as a DOORED one at x, and as one half of SPACE further", run -> {
            run.ask("set", 3, 4);
            for (int o = 0; o < 16; o++) {
                run.due(1, "wood", 20, o);
                run.due(1, "wood", 21, o);
                run.due(1, "wood", 12, o);
                run.due(1, "wood", 13, o);
            }
            run.due(0, "wood", 11, 0);
            run.due(0, "wood", 14, 0);
        });
        CASES.promise(5, "HALVED: a DOOR at 47 seen from half of SPACE ahead has all its BEAM", run -> {
            measure(run, 24, 4, 47, 4);
            dueWoods(run, 4, "....####........####........####...####.####...#");
        });
        CASES.promise(5, "HALVED: WOOD at each INCH by each OFFSET", run -> {
            measure(run, 6, 4, 20, 4);
            for (int o = 0; o < 6; o++) {
                dueWoods(run, o, "#".repeat(48));
            }
        });
    }

    private static void shorts() {
        CASES.promise(5, "SHORT: 39 is the last INCH with WOOD, from 40 on there is none", run -> {
            run.ask("set", 3, 5);
            dueWoods(run, 7, ".......##..............##..............#........");
            for (int o = 0; o < 16; o++) {
                run.due(o == 7 || o == 6 ? 1 : 0, "wood", 39, o);
                run.due(0, "wood", 40, o);
                run.due(0, "wood", 47, o);
            }
        });
    }

    private static void tools() {
        int[][] tools = {{7, 7, 1}, {4, 9, 3}, {6, 9, 2}, {8, 6, 1}, {9, 9, 5}};
        for (int kind = 0; kind < 5; kind++) {
            int each = kind;
            CASES.promise(7, "the three numbers of the TOOL " + kind, run -> {
                for (int what = 0; what < 3; what++) {
                    run.due(tools[each][what], "tool", each, what);
                }
            });
            CASES.promise(8, "a telling of WOOD by the TOOL " + kind + ", in WOOD and where there is none", run -> {
                run.due(1, "telling", each, 0, 1);
                long inWood = tools[each][0];
                long inNone = 10 - tools[each][1];
                dueWeights(run, inWood, inNone);
                run.due(each == 4 ? 1 : 0, "hole", 0);
            });
            CASES.promise(8, "a telling of NONE by the TOOL " + kind + ", in WOOD and where there is none", run -> {
                run.due(1, "telling", each, 0, 0);
                long inWood = 10 - tools[each][0];
                long inNone = tools[each][1];
                dueWeights(run, inWood, inNone);
                run.due(each == 4 ? 1 : 0, "hole", 0);
            });
        }
    }

    /** At 0 there is WOOD by the OFFSETS 0 and 15. */
    private static void dueWeights(Run run, long inWood, long inNone) {
        long by = java.math.BigInteger.valueOf(inWood).gcd(java.math.BigInteger.valueOf(inNone)).longValue();
        for (int o = 0; o < 16; o++) {
            run.due((o == 0 || o == 15 ? inWood : inNone) / by, "weight", o);
        }
    }

    private static void weights() {
        CASES.promise(6, "the greatest WEIGHT: six BORES in WOOD", run -> {
            for (int used = 1; used <= 6; used++) {
                run.due(used, "telling", 4, 0, 1);
            }
            run.due(531441, "weight", 0);
            run.due(531441, "weight", 15);
            run.due(1, "weight", 1);
            run.due(1, "count", 2);
        });
        CASES.promise(6, "a WEIGHT of 0 is told, no refusal", run -> {
            run.ask("nail", 0, 0);
            run.due(0, "weight", 0);
            run.due(0, "weight", 15);
            run.due(0, "count", 11);
        });
        CASES.promise(8, "WEIGHTS that all become alike become 1", run -> {
            run.ask("set", 3, 2);
            run.due(1, "telling", 0, 20, 1);
            for (int o = 0; o < 16; o++) {
                run.due(1, "weight", o);
            }
        });
        CASES.promise(8, "WEIGHTS are divided by what divides all of them that are not 0", run -> {
            run.ask("nail", 0, 0);
            run.ask("telling", 3, 5, 1);
            // By an EAR 8 in WOOD to 4: 2 to 1; the OFFSETS 0 and 15 are out.
            run.due(2, "weight", 5);
            run.due(2, "weight", 4);
            run.due(1, "weight", 6);
            run.due(0, "weight", 0);
        });
        for (int other : new int[] {0, 23}) {
            CASES.promise(8, "what divides all WEIGHTS but that of the OFFSET " + other + " divides none", run -> {
                run.wall(1, "s24,1;");
                run.ask("telling", 0, other, 0);
                for (int o = 0; o < 24; o++) {
                    run.due(o == other ? 3 : 7, "weight", o);
                }
            });
        }
        CASES.promise(8, "a telling gives no WEIGHT to what has none", run -> {
            run.ask("nail", 0, 0);
            run.ask("telling", 4, 0, 1);
            run.due(0, "weight", 0);
            run.due(14, "count", 0);
            run.due(1, "weight", 1);
        });
        CASES.promise(9, "one OFFSET that is left has WEIGHT 1", run -> {
            run.times(3, "telling", 0, 0, 1);
            run.ask("nail", 0, 1);
            run.due(1, "nail", 1, 1);
            run.due(1, "weight", 0);
        });
    }

    private static void nails() {
        CASES.promise(9, "NAILS at 0 and 47, the ends of the wall", run -> {
            run.due(14, "nail", 0, 0);
            run.due(13, "nail", 47, 0);
            run.due(1, "hole", 0);
            run.due(1, "hole", 47);
        });
        CASES.promise(9, "NAILS have no greatest number, and are no tellings", run -> {
            run.due(2, "nail", 0, 1);
            for (int x = 2; x < 15; x++) {
                run.due(2, "nail", x, 0);
            }
            run.due(0, "count", 1);
            run.due(14, "count", 2);
        });
        CASES.promise(9, "a NAIL where there is a HOLE leaves no second", run -> {
            run.ask("nail", 5, 0);
            run.due(14, "nail", 5, 0);
            run.due(1, "count", 2);
        });
    }

    private static void pipes() {
        CASES.promise(10, "PIPES are numbered from 0 to 5 as they come", run -> {
            for (int i = 0; i < 6; i++) {
                run.due(i, "pipe", 47 - i, 9 - i);
            }
            run.due(6, "count", 3);
        });
        CASES.promise(10, "a PIPE told in letters is numbered with the others", run -> {
            run.due(0, "pipe", 3, 1);
            run.wall(2, "p032;p033;");
            run.due(3, "pipe", 3, 0);
            run.due(6, "risk", 3);
        });
        CASES.promise(11, "no PIPES: 0", run -> run.due(0, "risk", 0));
        CASES.promise(11, "a PIPE with CHANCE 0: 0", run -> {
            run.ask("pipe", 0, 0);
            run.due(0, "risk", 0);
        });
        CASES.promise(11, "CHANCES that are 9, 10 and 11 together: 10 at most", run -> {
            run.ask("pipe", 5, 9);
            run.due(9, "risk", 5);
            run.ask("pipe", 5, 1);
            run.due(10, "risk", 5);
            run.ask("pipe", 5, 1);
            run.due(10, "risk", 5);
        });
        CASES.promise(11, "six PIPES with CHANCE 9 at one INCH: 10, and none beside it", run -> {
            run.times(6, "pipe", 47, 9);
            run.due(10, "risk", 47);
            run.due(0, "risk", 46);
        });
    }

    private static void holes() {
        CASES.promise(12, "a HOLE at 0 and at 47, none beside them", run -> {
            run.ask("nail", 0, 0);
            run.ask("telling", 4, 47, 0);
            run.due(1, "hole", 0);
            run.due(0, "hole", 1);
            run.due(0, "hole", 46);
            run.due(1, "hole", 47);
        });
        CASES.promise(13, "no HOLES: 0", run -> {
            run.due(0, "fill");
            run.due(0, "fill");
        });
        CASES.promise(13, "a HOLE at each INCH: 48, then 0", run -> {
            run.ask("set", 3, 4);
            run.ask("set", 1, 4);
            run.ask("set", 0, 6);
            for (int x = 0; x < 48; x++) {
                run.due(6, "nail", x, 1);
            }
            run.due(48, "count", 2);
            run.due(40, "covers", 0, 40);
            run.due(-9, "middle", 40, 0);
            run.due(48, "fill");
            run.due(0, "count", 2);
            run.due(0, "hole", 0);
            run.due(0, "hole", 47);
            run.due(0, "fill");
        });
        CASES.promise(13, "what NAILS told, PIPES and USED stay", run -> {
            run.ask("nail", 0, 1);
            run.ask("telling", 4, 5, 0);
            run.ask("pipe", 5, 5);
            run.due(2, "fill");
            run.due(2, "count", 0);
            run.due(1, "count", 1);
            run.due(1, "count", 3);
        });
    }

    private static void images() {
        CASES.promise(37, "USED 0 and USED 6", run -> {
            run.due(0, "image");
            run.times(6, "telling", 0, 0, 1);
            run.due(6, "image");
        });
        CASES.promise(37, "it changes nothing", run -> {
            run.ask("telling", 4, 0, 1);
            run.ask("row", 5);
            run.letters("l");
            run.due(1, "image");
            run.due(1, "count", 1);
            run.due(1, "count", 8);
            run.due(1, "count", 9);
        });
        CASES.promise(38, "a second IMAGE takes the place of the first", run -> {
            run.ask("image");
            run.ask("set", 0, 6);
            run.ask("image");
            run.ask("set", 0, 24);
            run.due(0, "on");
            run.due(6, "count", 4);
            run.due(6, "count", 0);
        });
        CASES.promise(38, "what comes after ON does not change the IMAGE", run -> {
            run.ask("image");
            run.ask("on");
            run.ask("nail", 5, 0);
            run.ask("pipe", 5, 5);
            run.ask("telling", 0, 5, 0);
            run.due(0, "on");
            run.due(16, "count", 0);
            run.due(0, "count", 2);
            run.due(0, "count", 3);
            run.due(1, "weight", 5);
        });
        CASES.promise(38, "the ROW, letters and REFUSALS are not of the IMAGE", run -> {
            run.ask("row", 1);
            run.letters("l");
            run.ask("image");
            run.ask("row", 2);
            run.letters("r");
            run.refused(-1, "risk", 48);
            run.ask("on");
            run.due(2, "count", 8);
            run.due(2, "count", 9);
            run.due(1, "count", 11);
            run.letters(";");
            run.due(1, "wall");
            run.due(1, "count", 7);
        });
        CASES.promise(38, "all measures, WEIGHTS, USED, HOLES and PIPES are as then", run -> {
            measure(run, 24, 4, 47, 5);
            run.ask("telling", 4, 0, 1);
            run.ask("nail", 30, 0);
            run.ask("pipe", 47, 9);
            run.ask("image");
            measure(run, 6, 1, 0, 0);
            run.ask("fill");
            run.ask("nail", 1, 1);
            run.due(1, "on");
            int[] due = {20, 1, 2, 1, 24, 4, 47, 5};
            for (int what = 0; what < due.length; what++) {
                run.due(due[what], "count", what);
            }
            run.due(9, "weight", 0);
            run.due(1, "weight", 1);
            run.due(0, "weight", 6);
            run.due(1, "hole", 0);
            run.due(0, "hole", 1);
            run.due(1, "hole", 30);
            run.due(9, "risk", 47);
            run.due(0, "wood", 40, 16);
        });
    }

    private static void counts() {
        CASES.promise(39, "empty and full, each what", run -> {
            int[] empty = {16, 0, 0, 0, 16, 2, 20, 0, 0, 0};
            for (int what = 0; what < empty.length; what++) {
                run.due(empty[what], "count", what);
            }
            run.wall(1, "s24,4;");
            run.times(6, "telling", 4, 7, 1);
            run.times(6, "pipe", 7, 7);
            run.times(8, "row", 7);
            run.letters("ll;".repeat(32));
            int[] full = {24, 6, 1, 6, 24, 4, 20, 0, 8, 96};
            for (int what = 0; what < full.length; what++) {
                run.due(full[what], "count", what);
            }
        });
        CASES.promise(39, "15, the REFUSALS -5: there are none", run -> run.due(0, "count", 15));
    }
}
