import java.lang.reflect.Method;
import java.util.Arrays;
import java.util.Comparator;

/** For each promise: ordinary inputs, the edges that the document names, and wrong inputs. */
public final class PromisesTest {
    private static final long NOBODY = 4000000000000000001L;
    private static final long OTHER = 4000000000000000002L;
    private static final long BELOW = 4000000000000000004L;
    private static final long ROOM = 4000000000000000006L;
    private static final int LOW = Integer.MIN_VALUE;
    private static final int HIGH = Integer.MAX_VALUE;

    private ANailInTheWall w;

    public static void main(String[] args) throws Exception {
        Method[] tests = Arrays.stream(PromisesTest.class.getDeclaredMethods())
                .filter(m -> m.getName().startsWith("promise"))
                .sorted(Comparator.comparing(Method::getName)).toArray(Method[]::new);
        Checks.in("the list of this test");
        Checks.due("promises", Arrays.stream(tests).map(m -> m.getName().substring(0, 9)).distinct().count(), 39);
        for (Method test : tests) {
            Checks.in(test.getName());
            PromisesTest fresh = new PromisesTest();
            fresh.w = new ANailInTheWall();
            test.invoke(fresh);
        }
        Checks.end();
    }

    private static void due(String call, long got, long want) {
        Checks.due(call, got, want);
    }

    private int tell(String text) {
        for (int i = 0; i < text.length(); i++) {
            w.letter(text.charAt(i));
        }
        return w.wall();
    }

    private void dueWall(String text, int want) {
        due("wall of \"" + text + "\"", tell(text), want);
        due("letters behind it", w.count(9), 0);
    }

    private void dueRefusals(int nobody, int other, int state, int below, int room) {
        due("count(11)", w.count(11), nobody);
        due("count(12)", w.count(12), other);
        due("count(13)", w.count(13), state);
        due("count(14)", w.count(14), below);
        due("count(15)", w.count(15), 0);
        due("count(16)", w.count(16), room);
    }

    private void dueLikely(int x, long above, long below) {
        due("likely(" + x + ", 0)", w.likely(x, 0), above);
        due("likely(" + x + ", 1)", w.likely(x, 1), below);
    }

    private void dueMean(int x, long above, long below) {
        due("mean(" + x + ", 0)", w.mean(x, 0), above);
        due("mean(" + x + ", 1)", w.mean(x, 1), below);
    }

    private void dueWorth(int kind, long above, long below) {
        due("worth(" + kind + ", 0)", w.worth(kind, 0), above);
        due("worth(" + kind + ", 1)", w.worth(kind, 1), below);
    }

    private void dueBoth(int apart, int x, long above, long below) {
        due("two(" + apart + ")", w.two(apart), x);
        due("both(" + apart + ", 0)", w.both(apart, 0), above);
        due("both(" + apart + ", 1)", w.both(apart, 1), below);
    }

    private void dueTwin(int y, int x, long above, long below) {
        due("twinLikely(" + y + ", " + x + ", 0)", w.twinLikely(y, x, 0), above);
        due("twinLikely(" + y + ", " + x + ", 1)", w.twinLikely(y, x, 1), below);
    }

    private void dueHappened(int kind, long above, long below) {
        due("happened(" + kind + ", 0)", w.happened(kind, 0), above);
        due("happened(" + kind + ", 1)", w.happened(kind, 1), below);
    }

    private void dueWeights(long... want) {
        for (int o = 0; o < want.length; o++) {
            due("weight(" + o + ")", w.weight(o), want[o]);
        }
        due("weight behind the last", w.weight(want.length), NOBODY);
    }

    private void dueWoods(int offset, String wall) {
        for (int x = 0; x < 48; x++) {
            due("wood(" + x + ", " + offset + ")", w.wood(x, offset), wall.charAt(x) == '#' ? 1 : 0);
        }
    }

    void promise01ANewObject() {
        int[] counts = {16, 0, 0, 0, 16, 2, 20, 0, 0, 0, -9, 0, 0, 0, 0, 0, 0};
        for (int what = 0; what < counts.length; what++) {
            due("count(" + what + ")", w.count(what), counts[what]);
        }
        dueWeights(1, 1, 1, 1, 1, 1, 1, 1, 1, 1, 1, 1, 1, 1, 1, 1);
        due("on()", w.on(), -3);
    }

    void promise02Letter() {
        due("letter(0)", w.letter(0), 1);
        due("letter(255)", w.letter(255), 2);
        due("letter(-1)", w.letter(-1), -4);
        due("letter(LOW)", w.letter(LOW), -4);
        due("letter(256)", w.letter(256), -6);
        due("letter(HIGH)", w.letter(HIGH), -6);
        due("count(9)", w.count(9), 2);
        for (int n = 3; n <= 96; n++) {
            due("letter", w.letter('x'), n);
        }
        due("letter 97", w.letter('x'), -6);
        due("letter(-1) without room", w.letter(-1), -4);
        due("count(9)", w.count(9), 96);
        dueRefusals(0, 0, 0, 3, 3);
    }

    void promise03WallComes() {
        dueWall("s12,3;lr;d07;", 3);
        due("SPACE", w.count(4), 12);
        due("BEAM", w.count(5), 3);
        due("DOOR", w.count(6), 7);
        due("LAW", w.count(7), 1);
        dueWall("s6,1;", 1);
        due("SPACE of one digit", w.count(4), 6);
        dueWall("s06,4;s24,1;s16,2;ll;", 4);
        for (int law = 0; law < 6; law++) {
            dueWall("l" + "lrdchs".charAt(law) + ";", 1);
            due("LAW", w.count(7), law);
        }
        dueWall("ll;t010+;", 2);
        dueWeights(3, 3, 3, 3, 3, 3, 3, 3, 3, 7, 7, 3, 3, 3, 3, 3);
        due("USED", w.count(1), 1);
        dueWall("n10-;t400+;", 2);
        due("OFFSETS", w.count(0), 14);
        due("HOLES", w.count(2), 2);
        due("hole(10)", w.hole(10), 1);
        due("hole(0)", w.hole(0), 1);
        dueWall("p105;p479;p000;", 3);
        due("PIPES", w.count(3), 3);
        due("risk(10)", w.risk(10), 5);
        due("risk(47)", w.risk(47), 9);
        for (String measure : new String[] {"s16,2;", "ls;", "d00;"}) {
            dueWall("t000-;" + measure, 2);
            due("USED", w.count(1), 0);
            dueWeights(1, 1, 1, 1, 1, 1, 1, 1, 1, 1, 1, 1, 1, 1, 1, 1);
        }
        due("HOLES stay", w.count(2), 2);
        due("PIPES stay", w.count(3), 3);
    }

    void promise03WallFaultsOfForm() {
        String[] lacking = {"", "s", "s1", "s16", "s16,", "s16,2", "l", "ll", "d", "d1", "d12", "t", "t0", "t00",
            "t000", "t000+", "n", "n0", "n00", "n00-", "p", "p0", "p00", "p000", "ll;n"};
        for (String text : lacking) {
            dueWall(text, -1000 - text.length());
        }
        dueWall("s,1;", -1001);
        dueWall("s1;", -1002);
        dueWall("s1x,1;", -1002);
        dueWall("s161,1;", -1003);
        dueWall("s16,;", -1004);
        dueWall("s16,11;", -1005);
        dueWall("lx;", -1001);
        dueWall("l0;", -1001);
        dueWall("lll;", -1002);
        dueWall("d123;", -1003);
        dueWall("d1;", -1002);
        dueWall("t00+;", -1003);
        dueWall("t000;", -1004);
        dueWall("t000*;", -1004);
        dueWall("t000++;", -1005);
        dueWall("n0+;", -1002);
        dueWall("n00,;", -1003);
        dueWall("n00+n", -1004);
        dueWall("p00;", -1003);
        dueWall("p0000;", -1004);
        dueWall(";", -1000);
        dueWall("ll;;", -1003);
        dueWall("L", -1000);
        dueWall(" ll;", -1000);
        dueWall("ll; ll;", -1003);
        dueWall("ll;" + (char) 0, -1003);
        dueWall("d" + (char) 0 + "0;", -1001);
        dueWall("d" + (char) 178 + "0;", -1001);
        dueWall("n48+;x", -1005);
        dueWall("s25,1;n", -1007);
        dueRefusals(0, 0, 0, 0, 0);
    }

    void promise03WallFaultsOfSense() {
        dueWall("s5,1;", -2000);
        dueWall("s25,1;", -2000);
        dueWall("s00,1;", -2000);
        dueWall("s16,0;", -2000);
        dueWall("s16,5;", -2000);
        dueWall("d48;", -2000);
        dueWall("d99;", -2000);
        dueWall("t500+;", -2000);
        dueWall("t048+;", -2000);
        dueWall("n48-;", -2000);
        dueWall("p480;", -2000);
        dueWall("d30;s12,1;p000;t000+;n00-;n48+;", -2000 - 26);
        due("DOOR", w.count(6), 20);
        due("SPACE", w.count(4), 16);
        due("PIPES", w.count(3), 0);
        due("USED", w.count(1), 0);
        due("HOLES", w.count(2), 0);
        due("OFFSETS", w.count(0), 16);
        dueWall("n00+;n00-;", -2005);
        dueWall("n00+;n02+;", -2005);
        dueWall("n00+;s16,2;n00-;", 3);
        dueWall("p000;p000;p000;p000;p000;p000;p000;", -2030);
        dueWall("p000;p000;p000;p000;p000;p009;", 6);
        dueWall("ll;p000;", -2003);
        due("PIPES", w.count(3), 6);
        dueWall("t000+;t000+;t000+;t000+;t000+;t000+;t000+;", -2036);
        due("USED", w.count(1), 0);
        dueWall("t000+;t000+;t000+;t000+;t000+;t000+;ll;t000+;", 8);
        due("USED", w.count(1), 1);
        dueWall("t000+;t000+;t000+;t000+;t000+;", 5);
        dueWall("t000+;", -2000);
        dueWall("n00-;n00+;", -2005);
        due("HOLE of the wall that came", w.count(2), 1);
        dueRefusals(0, 0, 0, 0, 0);
    }

    void promise03WallOf96Letters() {
        String text = "ll;".repeat(32);
        dueWall(text, 32);
        for (int i = 0; i < 96; i++) {
            due("letter", w.letter(i < 95 ? text.charAt(i) : 's'), i + 1);
        }
        due("wall()", w.wall(), -1095);
    }

    void promise04Set() {
        int[] was = {16, 2, 20, 0};
        int[] least = {6, 1, 0, 0};
        int[] most = {24, 4, 47, 5};
        for (int what = 0; what < 4; what++) {
            w.telling(0, 3, 1);
            w.nail(8, 0);
            due("least", w.set(what, least[what]), was[what]);
            due("USED", w.count(1), 0);
            due("weight(0)", w.weight(0), 1);
            due("weight(5)", w.weight(5), 1);
            due("OFFSETS", w.count(0), w.count(4));
            due("most", w.set(what, most[what]), least[what]);
            due("its count", w.count(4 + what), most[what]);
            due("OFFSETS", w.count(0), w.count(4));
            due("below", w.set(what, least[what] - 1), -4);
            due("LOW", w.set(what, LOW), -4);
            due("above", w.set(what, most[what] + 1), -6);
            due("HIGH", w.set(what, HIGH), -6);
            due("its count stays", w.count(4 + what), most[what]);
        }
        due("set(-1, 0)", w.set(-1, 0), -2);
        due("set(4, 0)", w.set(4, 0), -2);
        due("set(LOW, LOW)", w.set(LOW, LOW), -2);
        due("HOLES stay", w.count(2), 1);
        dueRefusals(0, 3, 0, 8, 8);
        w.telling(0, 3, 1);
        w.set(0, 5);
        due("USED stays when it is refused", w.count(1), 1);
    }

    void promise05WoodByEachLaw() {
        dueWoods(0, "##..............##..............##..............");
        dueWoods(5, ".....##..............##..............##.........");
        dueWoods(15, "#..............##..............##..............#");
        w.set(3, 1);
        dueWoods(0, "..............##..............##..............##");
        dueWoods(5, ".........##..............##..............##.....");
        w.set(3, 2);
        dueWoods(0, "##..............##..##..........##..............");
        w.set(3, 3);
        dueWoods(5, "##.......##..............##..............##...##");
        w.set(1, 4);
        dueWoods(5, "####...####............####............####.####");
        w.set(1, 2);
        w.set(3, 4);
        dueWoods(0, "##......##..##..##..##..##......##......##......");
        w.set(3, 5);
        dueWoods(0, "##..............##..............##..............");
        dueWoods(6, "......##..............##..............##........");
        dueWoods(7, ".......##..............##..............#........");
        dueWoods(8, "........##..............##......................");
        due("wood(48, 0)", w.wood(48, 0), -1);
        due("wood(-1, 0)", w.wood(-1, 0), -1);
        due("wood(0, 16)", w.wood(0, 16), -1);
        due("wood(0, -1)", w.wood(0, -1), -1);
        due("wood(HIGH, LOW)", w.wood(HIGH, LOW), -1);
        dueRefusals(5, 0, 0, 0, 0);
    }

    void promise05WoodBySpacesThatHaveNoHalf() {
        w.set(0, 7);
        w.set(1, 1);
        w.set(2, 47);
        w.set(3, 4);
        dueWoods(0, "#...#..#...#..#...#..#...#..#...#..#...#..#.#.##");
    }

    void promise06Weight() {
        w.telling(0, 10, 1);
        dueWeights(3, 3, 3, 3, 3, 3, 3, 3, 3, 7, 7, 3, 3, 3, 3, 3);
        w.telling(1, 10, 0);
        dueWeights(9, 9, 9, 9, 9, 9, 9, 9, 9, 14, 14, 9, 9, 9, 9, 9);
        due("weight(-1)", w.weight(-1), NOBODY);
        due("weight(LOW)", w.weight(LOW), NOBODY);
        due("weight(HIGH)", w.weight(HIGH), NOBODY);
        w.set(0, 24);
        due("weight(23)", w.weight(23), 1);
        due("weight(24)", w.weight(24), NOBODY);
        w.set(0, 6);
        due("weight(6)", w.weight(6), NOBODY);
        dueRefusals(7, 0, 0, 0, 0);
    }

    void promise07Tool() {
        int[][] tools = {{7, 7, 1}, {4, 9, 3}, {6, 9, 2}, {8, 6, 1}, {9, 9, 5}};
        for (int kind = 0; kind < 5; kind++) {
            for (int what = 0; what < 3; what++) {
                due("tool(" + kind + ", " + what + ")", w.tool(kind, what), tools[kind][what]);
            }
        }
        due("tool(5, 0)", w.tool(5, 0), -2);
        due("tool(-1, 0)", w.tool(-1, 0), -2);
        due("tool(0, 3)", w.tool(0, 3), -2);
        due("tool(0, -1)", w.tool(0, -1), -2);
        dueRefusals(0, 4, 0, 0, 0);
    }

    void promise08TellingMultiplies() {
        long[][] told = {{7, 3}, {4, 1}, {6, 1}, {8, 4}, {9, 1}};
        long[][] toldNone = {{3, 7}, {6, 9}, {4, 9}, {2, 6}, {1, 9}};
        for (int kind = 0; kind < 5; kind++) {
            for (int is = 0; is < 2; is++) {
                long[] tenths = is == 1 ? told[kind] : toldNone[kind];
                long by = greatest(tenths[0], tenths[1]);
                w.set(2, 20);
                due("telling(" + kind + ", 20, " + is + ")", w.telling(kind, 20, is), 1);
                due("weight(4)", w.weight(4), tenths[0] / by);
                due("weight(3)", w.weight(3), tenths[0] / by);
                due("weight(5)", w.weight(5), tenths[1] / by);
                due("hole(20)", w.hole(20), kind == 4 ? 1 : 0);
            }
        }
    }

    private static long greatest(long a, long b) {
        return b == 0 ? a : greatest(b, a % b);
    }

    void promise08TellingDividesAndIsRefused() {
        due("telling", w.telling(0, 10, 1), 1);
        due("telling", w.telling(0, 10, 0), 2);
        due("weights are divided", w.weight(10), 1);
        due("weights are divided", w.weight(0), 1);
        for (int used = 3; used <= 6; used++) {
            due("telling", w.telling(4, 0, 1), used);
        }
        due("weight(0)", w.weight(0), 6561);
        due("weight(1)", w.weight(1), 1);
        due("telling 7", w.telling(4, 1, 1), -6);
        due("no hole of a telling that is refused", w.hole(1), 0);
        due("telling(5, 48, 2)", w.telling(5, 48, 2), -2);
        due("telling(-1, 0, 0)", w.telling(-1, 0, 0), -2);
        due("telling(0, 48, 2)", w.telling(0, 48, 2), -1);
        due("telling(0, -1, 0)", w.telling(0, -1, 0), -1);
        due("telling(0, 0, 2)", w.telling(0, 0, 2), -2);
        due("telling(0, 0, -1)", w.telling(0, 0, -1), -2);
        dueRefusals(2, 4, 0, 0, 1);
        due("USED", w.count(1), 6);
        due("weight(0)", w.weight(0), 6561);
    }

    void promise09Nail() {
        due("nail(5, 0)", w.nail(5, 0), 14);
        dueWeights(1, 1, 1, 1, 0, 0, 1, 1, 1, 1, 1, 1, 1, 1, 1, 1);
        due("hole(5)", w.hole(5), 1);
        due("nail(21, 1) is the same place", w.nail(21, 1), -3);
        due("no hole of a nail that is refused", w.hole(21), 0);
        due("nail(6, 1)", w.nail(6, 1), 1);
        due("weight(6)", w.weight(6), 1);
        due("nail(6, 0)", w.nail(6, 0), -3);
        due("nail(38, 1)", w.nail(38, 1), 1);
        due("nail(48, 2)", w.nail(48, 2), -1);
        due("nail(-1, 0)", w.nail(-1, 0), -1);
        due("nail(0, 2)", w.nail(0, 2), -2);
        due("nail(0, -1)", w.nail(0, -1), -2);
        dueRefusals(3, 2, 2, 0, 0);
        due("HOLES", w.count(2), 3);
        due("USED", w.count(1), 0);
    }

    void promise09NailDivides() {
        w.telling(0, 10, 1);
        due("nail(10, 1)", w.nail(10, 1), 2);
        dueWeights(0, 0, 0, 0, 0, 0, 0, 0, 0, 1, 1, 0, 0, 0, 0, 0);
        w.set(3, 0);
        w.telling(0, 10, 1);
        w.telling(2, 11, 1);
        due("nail(9, 0)", w.nail(9, 0), 14);
        due("weight(10)", w.weight(10), 14);
        due("weight(11)", w.weight(11), 6);
        due("weight(0)", w.weight(0), 1);
    }

    void promise10Pipe() {
        for (int i = 0; i < 6; i++) {
            due("pipe", w.pipe(47 * (i % 2), i), i);
        }
        due("pipe 7", w.pipe(0, 9), -6);
        due("pipe(48, -1)", w.pipe(48, -1), -1);
        due("pipe(-1, 0)", w.pipe(-1, 0), -1);
        due("pipe(0, -1)", w.pipe(0, -1), -4);
        due("pipe(0, 10)", w.pipe(0, 10), -6);
        due("count(3)", w.count(3), 6);
        dueRefusals(2, 0, 0, 1, 2);
    }

    void promise10PipeChances() {
        due("pipe(0, 10)", w.pipe(0, 10), -6);
        due("pipe(0, 9)", w.pipe(0, 9), 0);
        due("pipe(47, 0)", w.pipe(47, 0), 1);
    }

    void promise11Risk() {
        w.pipe(7, 4);
        w.pipe(8, 9);
        w.pipe(7, 5);
        due("risk(7)", w.risk(7), 9);
        due("risk(8)", w.risk(8), 9);
        due("risk(0)", w.risk(0), 0);
        w.pipe(7, 1);
        due("risk(7)", w.risk(7), 10);
        w.pipe(7, 1);
        due("risk(7)", w.risk(7), 10);
        due("risk(48)", w.risk(48), -1);
        due("risk(-1)", w.risk(-1), -1);
        dueRefusals(2, 0, 0, 0, 0);
    }

    void promise12Hole() {
        w.nail(0, 0);
        w.nail(47, 0);
        w.telling(4, 40, 1);
        w.telling(1, 41, 1);
        due("hole(0)", w.hole(0), 1);
        due("hole(47)", w.hole(47), 1);
        due("hole(40)", w.hole(40), 1);
        due("hole(41)", w.hole(41), 0);
        due("hole(15)", w.hole(15), 0);
        due("hole(48)", w.hole(48), -1);
        due("hole(-1)", w.hole(-1), -1);
        dueRefusals(2, 0, 0, 0, 0);
    }

    void promise13Fill() {
        due("fill()", w.fill(), 0);
        w.nail(0, 0);
        w.nail(0, 0);
        w.nail(47, 0);
        due("fill()", w.fill(), 2);
        due("hole(0)", w.hole(0), 0);
        due("count(2)", w.count(2), 0);
        due("fill()", w.fill(), 0);
        due("what nails told stays", w.weight(0), 0);
    }

    void promise14Likely() {
        dueLikely(0, 1, 8);
        w.telling(0, 10, 1);
        dueLikely(10, 1, 4);
        dueLikely(26, 1, 4);
        dueLikely(9, 5, 28);
        dueLikely(12, 3, 28);
        w.nail(10, 1);
        dueLikely(10, 1, 1);
        dueLikely(9, 1, 2);
        dueLikely(12, 0, 1);
        due("likely(48, 2)", w.likely(48, 2), NOBODY);
        due("likely(-1, 0)", w.likely(-1, 0), NOBODY);
        due("likely(0, 2)", w.likely(0, 2), OTHER);
        due("likely(0, -1)", w.likely(0, -1), OTHER);
        dueRefusals(2, 2, 0, 0, 0);
    }

    void promise15Sure() {
        due("sure(0, -1)", w.sure(0, -1), 0);
        due("sure(1, -1)", w.sure(1, -1), 0);
        w.nail(0, 1);
        int[] wood = {0, 16, 32};
        due("sure(0, -1)", w.sure(0, -1), 3);
        for (int i = 0; i < 3; i++) {
            due("sure(0, " + i + ")", w.sure(0, i), wood[i]);
        }
        due("sure(0, 3)", w.sure(0, 3), -9);
        due("sure(0, HIGH)", w.sure(0, HIGH), -9);
        due("sure(1, -1)", w.sure(1, -1), 39);
        due("sure(1, 0)", w.sure(1, 0), 2);
        due("sure(1, 13)", w.sure(1, 13), 18);
        due("sure(1, 38)", w.sure(1, 38), 46);
        due("sure(1, 39)", w.sure(1, 39), -9);
        due("sure(2, -2)", w.sure(2, -2), -2);
        due("sure(-1, 0)", w.sure(-1, 0), -2);
        due("sure(0, -2)", w.sure(0, -2), -4);
        due("sure(1, LOW)", w.sure(1, LOW), -4);
        dueRefusals(0, 2, 0, 2, 0);
    }

    void promise15SureWithLittleWeight() {
        w.telling(4, 0, 1);
        w.telling(4, 0, 1);
        due("sure(0, -1)", w.sure(0, -1), 0);
        w.set(3, 5);
        due("sure(1, -1)", w.sure(1, -1), 8);
        due("sure(1, 0)", w.sure(1, 0), 40);
        w.set(3, 3);
        due("sure(0, -1)", w.sure(0, -1), 4);
        due("sure(0, 2)", w.sure(0, 2), 46);
    }

    void promise16Best() {
        due("best()", w.best(), 0);
        w.nail(0, 0);
        due("best()", w.best(), 2);
        w.telling(3, 47, 1);
        due("best()", w.best(), 14);
        w.set(3, 2);
        due("best()", w.best(), 20);
        w.set(2, 47);
        due("best()", w.best(), 47);
    }

    void promise17Safest() {
        due("safest()", w.safest(), 0);
        w.pipe(0, 1);
        due("safest()", w.safest(), 1);
        w.nail(0, 1);
        due("safest()", w.safest(), 16);
        w.pipe(16, 9);
        w.pipe(32, 9);
        due("safest()", w.safest(), 0);
        w.pipe(0, 4);
        due("safest(), of two the least", w.safest(), 0);
        w.pipe(0, 1);
        due("safest()", w.safest(), 1);
        w.pipe(0, 9);
        due("safest()", w.safest(), 1);
    }

    void promise17SafestIsNeverBelowNothing() {
        tell("s24,1;n00+;p009;p009;p249;p249;");
        due("safest()", w.safest(), 0);
    }

    void promise18Holes() {
        due("holes(0)", w.holes(0), 8);
        w.nail(0, 1);
        due("holes(0)", w.holes(0), 1);
        due("holes(1)", w.holes(1), 8);
        due("holes(2)", w.holes(2), 8);
        due("holes(14)", w.holes(14), 2);
        due("holes(47)", w.holes(47), 2);
        due("holes(46)", w.holes(46), 2);
        w.set(1, 1);
        due("holes(5)", w.holes(5), 16);
        w.set(0, 24);
        due("holes(30)", w.holes(30), 24);
        w.nail(20, 1);
        due("holes(45)", w.holes(45), 24);
        due("holes(43)", w.holes(43), 2);
        due("holes(48)", w.holes(48), -1);
        due("holes(-1)", w.holes(-1), -1);
        dueRefusals(2, 0, 0, 0, 0);
    }

    void promise19Mean() {
        dueMean(0, 9, 2);
        w.nail(0, 1);
        dueMean(0, 1, 1);
        dueMean(1, 9, 2);
        dueMean(47, 3, 2);
        w.set(3, 0);
        w.telling(0, 0, 1);
        dueMean(0, 4, 1);
        dueMean(2, 5, 1);
        due("mean(48, 2)", w.mean(48, 2), NOBODY);
        due("mean(-1, 0)", w.mean(-1, 0), NOBODY);
        due("mean(0, 2)", w.mean(0, 2), OTHER);
        due("mean(0, -1)", w.mean(0, -1), OTHER);
        dueRefusals(2, 2, 0, 0, 0);
    }

    void promise20From() {
        due("from()", w.from(), 0);
        w.telling(0, 10, 1);
        due("from()", w.from(), 10);
        w.set(3, 2);
        due("from()", w.from(), 20);
        w.set(3, 0);
        w.nail(5, 1);
        due("from()", w.from(), 5);
    }

    void promise21Next() {
        for (int kind = 0; kind < 5; kind++) {
            due("next(" + kind + ")", w.next(kind), 0);
        }
        w.nail(0, 0);
        due("next(4)", w.next(4), 2);
        w.telling(0, 10, 1);
        w.telling(1, 26, 0);
        due("next(3)", w.next(3), 10);
        due("next(-1)", w.next(-1), -2);
        due("next(5)", w.next(5), -2);
        dueRefusals(0, 2, 0, 0, 0);
    }

    void promise22Worth() {
        tell("s6,1;");
        dueWorth(0, 1, 15);
        dueWorth(1, 1, 20);
        dueWorth(2, 1, 12);
        dueWorth(3, 1, 15);
        dueWorth(4, 2, 15);
        w.nail(0, 1);
        dueWorth(4, 0, 1);
        tell("s16,1;d00;ld;");
        dueWorth(4, 0, 1);
        due("worth(5, 0)", w.worth(5, 0), OTHER);
        due("worth(-1, 0)", w.worth(-1, 0), OTHER);
        due("worth(0, 2)", w.worth(0, 2), OTHER);
        due("worth(0, -1)", w.worth(0, -1), OTHER);
        dueRefusals(0, 4, 0, 0, 0);
    }

    void promise23Kind() {
        due("kind()", w.kind(), 0);
        w.telling(0, 10, 1);
        w.telling(1, 26, 0);
        due("kind()", w.kind(), 3);
        w.nail(10, 1);
        due("kind()", w.kind(), 0);
        tell("s6,1;t400+;t000+;");
        due("kind() by what worth tells", w.kind(), kindByHand());
    }

    private int kindByHand() {
        int kind = 0;
        for (int k = 1; k < 5; k++) {
            long mine = w.worth(k, 0) * w.worth(kind, 1) * w.tool(kind, 2);
            long its = w.worth(kind, 0) * w.worth(k, 1) * w.tool(k, 2);
            kind = mine > its ? k : kind;
        }
        return kind;
    }

    private void threeHoles() {
        w.nail(5, 0);
        w.nail(10, 0);
        w.nail(20, 0);
    }

    void promise24Covers() {
        threeHoles();
        due("covers(5, 6)", w.covers(5, 6), 2);
        due("covers(6, 4)", w.covers(6, 4), 0);
        due("covers(6, 5)", w.covers(6, 5), 1);
        due("covers(5, 16)", w.covers(5, 16), 3);
        due("covers(0, 40)", w.covers(0, 40), 3);
        due("covers(8, 40)", w.covers(8, 40), 2);
        due("covers(20, 1)", w.covers(20, 1), 1);
        due("covers(47, 1)", w.covers(47, 1), 0);
        due("covers(-1, 41)", w.covers(-1, 41), -4);
        due("covers(49, 0)", w.covers(49, 0), -4);
        due("covers(LOW, LOW)", w.covers(LOW, LOW), -4);
        due("covers(0, 41)", w.covers(0, 41), -6);
        due("covers(9, 40)", w.covers(9, 40), -6);
        due("covers(48, 1)", w.covers(48, 1), -6);
        due("covers(HIGH, 1)", w.covers(HIGH, 1), -6);
        due("covers(HIGH, HIGH)", w.covers(HIGH, HIGH), -6);
        dueRefusals(0, 0, 0, 3, 5);
    }

    void promise25Hang() {
        due("hang(40)", w.hang(40), 0);
        w.telling(0, 10, 1);
        due("hang(1)", w.hang(1), 10);
        due("hang(3)", w.hang(3), 8);
        threeHoles();
        due("hang(6)", w.hang(6), 5);
        due("hang(16)", w.hang(16), 5);
        due("hang(0)", w.hang(0), -4);
        due("hang(LOW)", w.hang(LOW), -4);
        due("hang(41)", w.hang(41), -6);
        due("hang(HIGH)", w.hang(HIGH), -6);
        dueRefusals(0, 0, 0, 2, 2);
    }

    void promise25HangByTheLikeliestWood() {
        w.telling(4, 20, 0);
        w.telling(0, 24, 1);
        due("hang(1) covers the hole first", w.hang(1), 20);
        due("hang(3), of two the least", w.hang(3), 18);
        due("hang(4)", w.hang(4), 20);
        due("hang(5)", w.hang(5), 20);
        due("hang(6)", w.hang(6), 19);
        w.fill();
        due("hang(1)", w.hang(1), 8);
    }

    void promise26Middle() {
        due("middle(1, 24)", w.middle(1, 24), 23);
        due("middle(40, 0)", w.middle(40, 0), 0);
        due("middle(40, 47)", w.middle(40, 47), 8);
        w.nail(5, 0);
        w.nail(10, 0);
        due("middle(6, 0)", w.middle(6, 0), 5);
        due("middle(5, 0)", w.middle(5, 0), -9);
        due("middle(10, 20)", w.middle(10, 20), 5);
        due("middle(10, 0)", w.middle(10, 0), 1);
        due("middle(10, 8)", w.middle(10, 8), 3);
        due("middle(9, 8)", w.middle(9, 8), 3);
        due("middle(0, 48)", w.middle(0, 48), -1);
        due("middle(41, -1)", w.middle(41, -1), -1);
        due("middle(0, 0)", w.middle(0, 0), -4);
        due("middle(41, 0)", w.middle(41, 0), -6);
        dueRefusals(2, 0, 0, 1, 1);
    }

    void promise27Two() {
        due("two(1)", w.two(1), 0);
        w.telling(0, 10, 1);
        due("two(16)", w.two(16), 10);
        due("two(1)", w.two(1), 9);
        due("two(40)", w.two(40), 0);
        w.set(0, 20);
        w.telling(0, 7, 1);
        due("two(40)", w.two(40), 7);
        due("two(0)", w.two(0), -4);
        due("two(LOW)", w.two(LOW), -4);
        due("two(41)", w.two(41), -6);
        due("two(HIGH)", w.two(HIGH), -6);
        dueRefusals(0, 0, 0, 2, 2);
    }

    void promise28Both() {
        dueBoth(1, 0, 1, 16);
        dueBoth(16, 0, 1, 8);
        dueBoth(9, 0, 0, 1);
        w.telling(0, 10, 1);
        dueBoth(16, 10, 1, 4);
        dueBoth(15, 10, 1, 8);
        w.set(0, 16);
        w.nail(0, 1);
        dueBoth(16, 0, 1, 1);
        dueBoth(15, 0, 1, 2);
        dueBoth(40, 0, 0, 1);
        due("both(0, 2)", w.both(0, 2), BELOW);
        due("both(41, 2)", w.both(41, 2), ROOM);
        due("both(1, 2)", w.both(1, 2), OTHER);
        due("both(1, -1)", w.both(1, -1), OTHER);
        dueRefusals(0, 2, 0, 1, 1);
    }

    void promise29Wire() {
        due("wire(1, 0)", w.wire(1, 0), 1);
        due("wire(40, 0)", w.wire(40, 0), 40);
        due("wire(3, 2)", w.wire(3, 2), 5);
        due("wire(3, 3)", w.wire(3, 3), 7);
        due("wire(1, 1)", w.wire(1, 1), 3);
        due("wire(40, 40)", w.wire(40, 40), 90);
        for (int a = 1; a <= 40; a++) {
            for (int h = 0; h <= 40; h++) {
                int inches = w.wire(a, h);
                int square = a * a + 4 * h * h;
                Checks.dueTrue("wire(" + a + ", " + h + ") is " + inches,
                        inches * inches >= square && (inches - 1) * (inches - 1) < square);
            }
        }
        due("wire(0, 41)", w.wire(0, 41), -4);
        due("wire(41, -1)", w.wire(41, -1), -4);
        due("wire(41, 0)", w.wire(41, 0), -6);
        due("wire(1, 41)", w.wire(1, 41), -6);
        due("wire(HIGH, HIGH)", w.wire(HIGH, HIGH), -6);
        dueRefusals(0, 0, 0, 2, 3);
    }

    void promise30Twin() {
        due("twin(0)", w.twin(0), 2);
        w.nail(0, 1);
        due("twin(47)", w.twin(47), 2);
        due("twin(46)", w.twin(46), 1);
        due("twin(40)", w.twin(40), 0);
        due("twin(48)", w.twin(48), -1);
        due("twin(-1)", w.twin(-1), -1);
        due("nothing was nailed", w.count(0), 2);
        due("no hole", w.count(2), 1);
        dueRefusals(2, 0, 0, 0, 0);
    }

    void promise31TwinLikely() {
        w.nail(0, 1);
        dueTwin(46, 0, 1, 1);
        dueTwin(47, 1, 1, 2);
        dueTwin(46, 15, 0, 1);
        dueTwin(40, 0, 0, 1);
        w.set(0, 16);
        w.telling(0, 10, 1);
        dueTwin(36, 10, 7, 10);
        due("twinLikely(48, 0, 2)", w.twinLikely(48, 0, 2), NOBODY);
        due("twinLikely(-1, 0, 0)", w.twinLikely(-1, 0, 0), NOBODY);
        due("twinLikely(0, 48, 2)", w.twinLikely(0, 48, 2), NOBODY);
        due("twinLikely(0, -1, 0)", w.twinLikely(0, -1, 0), NOBODY);
        due("twinLikely(0, 0, 2)", w.twinLikely(0, 0, 2), OTHER);
        due("twinLikely(0, 0, -1)", w.twinLikely(0, 0, -1), OTHER);
        dueRefusals(4, 2, 0, 0, 0);
    }

    void promise32Row() {
        due("row(0)", w.row(0), 1);
        due("row(99)", w.row(99), 2);
        due("row(-1)", w.row(-1), -4);
        due("row(100)", w.row(100), -6);
        for (int n = 3; n <= 8; n++) {
            due("row", w.row(48), n);
        }
        due("row 9", w.row(0), -6);
        due("row(-1) without room", w.row(-1), -4);
        due("count(8)", w.count(8), 8);
        dueRefusals(0, 0, 0, 2, 2);
    }

    void promise33Old() {
        due("old()", w.old(), 65535);
        w.row(50);
        due("old()", w.old(), 1 + (1 << 15));
        w.row(1);
        due("old()", w.old(), 1 << 15);
        due("the ROW stays", w.count(8), 2);
        w.nail(16, 0);
        due("old() without weight", w.old(), 0);
        w.set(0, 24);
        due("old()", w.old(), 1 << 23);
        w.row(97);
        due("old()", w.old(), 1 << 23);
        for (int none : new int[] {48, 49, 98, 99}) {
            w = new ANailInTheWall();
            w.row(none);
            due("old() with " + none, w.old(), 0);
        }
        w = new ANailInTheWall();
        w.row(47);
        due("old()", w.old(), 65535 - (1 << 14) - (1 << 15));
    }

    void promise34Happened() {
        dueHappened(0, 1, 1);
        w.row(50);
        dueHappened(0, 7, 20);
        dueHappened(4, 1, 5);
        w.row(0);
        dueHappened(0, 21, 100);
        dueHappened(1, 87, 800);
        due("the ROW stays", w.count(8), 2);
        due("USED", w.count(1), 0);
        w.row(98);
        dueHappened(0, 0, 1);
        due("happened(5, 0)", w.happened(5, 0), OTHER);
        due("happened(-1, 0)", w.happened(-1, 0), OTHER);
        due("happened(0, 2)", w.happened(0, 2), OTHER);
        due("happened(0, -1)", w.happened(0, -1), OTHER);
        dueRefusals(0, 4, 0, 0, 0);
    }

    void promise34HappenedWithManyDigits() {
        w.set(0, 24);
        for (int i = 0; i < 6; i++) {
            w.telling(4, 8 * i % 24, 1);
        }
        for (int i = 0; i < 8; i++) {
            w.row(50 + 3 * i);
        }
        Checks.dueTrue("a likelihood", w.happened(4, 0) > 0 && w.happened(4, 0) < w.happened(4, 1));
    }

    void promise35Judge() {
        due("judge()", w.judge(), -9);
        w.row(50);
        w.row(1);
        due("judge()", w.judge(), -9);
        due("the ROW has none", w.count(8), 0);
        w.row(50);
        w.row(1);
        w.row(0);
        w.row(48);
        due("judge()", w.judge(), 2);
        due("the ROW has none", w.count(8), 0);
        for (int none : new int[] {48, 49, 98, 99}) {
            w.row(3);
            w.row(none);
            due("judge() with " + none, w.judge(), 1);
        }
        due("nothing was nailed", w.count(0), 16);
        due("no hole", w.count(2), 0);
        w.nail(0, 0);
        w.row(66);
        due("judge() by what nails told", w.judge(), 0);
        dueRefusals(0, 0, 0, 0, 0);
    }

    void promise36Lots() {
        for (int z : new int[] {0, 7, -1, LOW, HIGH, 123456789, -987654321}) {
            for (int n : new int[] {1, 2, 30}) {
                due("lots(" + n + ", " + z + ")", w.lots(n, z), lotsByHand(n, z));
            }
        }
        due("lots(5, 7)", w.lots(5, 7), 17);
        w.nail(0, 0);
        w.telling(0, 9, 1);
        due("lots(5, 7) from WEIGHTS 1", w.lots(5, 7), 17);
        due("HOLES", w.count(2), 1);
        due("OFFSETS", w.count(0), 14);
        due("lots(0, 0)", w.lots(0, 0), -4);
        due("lots(LOW, 0)", w.lots(LOW, 0), -4);
        due("lots(31, 0)", w.lots(31, 0), -6);
        due("lots(HIGH, 0)", w.lots(HIGH, 0), -6);
        dueRefusals(0, 0, 0, 2, 2);
        w.set(3, 2);
        w.set(2, 47);
        due("lots(30, 5) with wood for sure", w.lots(30, 5), 30);
    }

    /** Spaces of 16 and beams of 2: nails go to 0, 2, 4 .. 14, and each looks for two offsets. */
    private static int lotsByHand(int n, int z) {
        int nails = 0;
        long seed = z;
        for (int i = 0; i < n; i++) {
            seed = (int) (seed * 1664525L + 1013904223L);
            long offset = (seed & 0x7fffffffL) / 256 % 16;
            nails += offset == 15 ? 1 : (int) (offset + 1) / 2 + 1;
        }
        return nails;
    }

    void promise37Image() {
        due("image()", w.image(), 0);
        tell("s12,1;lh;d05;t400+;n02-;p057;");
        due("image()", w.image(), 1);
        due("nothing changes", w.count(1), 1);
        w.telling(0, 0, 1);
        due("image()", w.image(), 2);
        due("on()", w.on(), 2);
    }

    void promise38On() {
        due("on()", w.on(), -3);
        tell("s12,1;lh;d05;t400+;n02-;p057;");
        w.image();
        long weight = w.weight(0);
        tell("s20,3;lc;d33;t111-;t112-;n07+;p111;p112;");
        w.fill();
        w.row(5);
        w.letter('x');
        w.set(9, 9);
        due("on()", w.on(), 1);
        // A nail went into nothing at 2: the offsets 2 and 8 are out.
        int[] counts = {10, 1, 2, 1, 12, 1, 5, 4, 1, 1};
        for (int what = 0; what < counts.length; what++) {
            due("count(" + what + ")", w.count(what), counts[what]);
        }
        due("weight(0)", w.weight(0), weight);
        due("hole(0)", w.hole(0), 1);
        due("hole(2)", w.hole(2), 1);
        due("risk(5)", w.risk(5), 7);
        due("risk(11)", w.risk(11), 0);
        dueRefusals(0, 1, 1, 0, 0);
        w.nail(4, 0);
        w.pipe(0, 1);
        due("on() again", w.on(), 1);
        due("hole(4)", w.hole(4), 0);
        due("count(3)", w.count(3), 1);
        due("weight(0)", w.weight(0), weight);
    }

    void promise39Count() {
        tell("s12,1;lh;d05;t400+;n02-;p057;p050;");
        w.row(5);
        w.row(6);
        w.row(7);
        w.letter('x');
        int[] counts = {10, 1, 2, 2, 12, 1, 5, 4, 3, 1, -9};
        for (int what = 0; what < counts.length; what++) {
            due("count(" + what + ")", w.count(what), counts[what]);
        }
        w.risk(48);
        w.set(4, 0);
        w.set(4, 0);
        w.nail(2, 1);
        w.hang(0);
        w.hang(41);
        w.hang(41);
        dueRefusals(1, 2, 1, 1, 2);
        due("count(-1)", w.count(-1), -9);
        due("count(17)", w.count(17), -9);
        due("count(LOW)", w.count(LOW), -9);
        due("count(HIGH)", w.count(HIGH), -9);
        dueRefusals(1, 2, 1, 1, 2);
    }
}
