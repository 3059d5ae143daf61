/** Beams hidden in a wall at even spaces, and what tools, nails and neighbours tell of them. */
public final class ANailInTheWall {
    private static final int INCHES = 48;
    private static final int LAST_INCH = 47;
    private static final int SHORT_FROM = 40;
    private static final int MOST_OFFSETS = 24;
    private static final int MOST_PIPES = 6;
    private static final int MOST_TELLINGS = 6;
    private static final int MOST_LETTERS = 96;
    private static final int LAST_LETTER = 255;
    private static final int MOST_IN_ROW = 8;
    private static final int LAST_OF_ROW = 99;
    private static final int MOST_CHANCE = 9;
    private static final int MOST_WIDTH = 40;
    private static final int MOST_WALLS = 30;

    private static final int SPACE = 0;
    private static final int BEAM = 1;
    private static final int DOOR = 2;
    private static final int LAW = 3;
    private static final int[] LEAST = {6, 1, 0, 0};
    private static final int[] GREATEST = {24, 4, 47, 5};

    private static final int LEFT = 0;
    private static final int RIGHT = 1;
    private static final int DOORED = 2;
    private static final int CORNERED = 3;
    private static final int HALVED = 4;
    private static final int SHORT = 5;
    private static final String LAW_LETTERS = "lrdchs";

    private static final int TOOLS = 5;
    private static final int BORE = 4;
    private static final int[] TELLS_WOOD = {7, 4, 6, 8, 9};
    private static final int[] TELLS_NONE = {7, 9, 9, 6, 9};
    private static final int[] COSTS = {1, 3, 2, 1, 5};

    private static final int NOBODY = -1;
    private static final int OTHER = -2;
    private static final int STATE = -3;
    private static final int BELOW = -4;
    private static final int ROOM = -6;
    private static final int KINDS_OF_REFUSALS = 6;
    private static final long REFUSED_LONG = 4000000000000000000L;
    private static final int NO_SUCH = -9;
    private static final int FAULT_OF_FORM = -1000;
    private static final int FAULT_OF_SENSE = -2000;

    private final Wall now = new Wall();
    private final Wall kept = new Wall();
    private final Wall trial = new Wall();
    private final Text text = new Text();
    private final Row told = new Row();
    private final Search search = new Search();
    private final int[] refusals = new int[KINDS_OF_REFUSALS + 1];
    private boolean isKept = false;

    public ANailInTheWall() {
    }

    public int letter(int c) {
        if (c < 0) {
            return refuse(BELOW);
        }
        if (c > LAST_LETTER || text.length >= MOST_LETTERS) {
            return refuse(ROOM);
        }
        text.signs[text.length] = (char) c;
        text.length++;
        return text.length;
    }

    public int wall() {
        int answer = text.passAll() ? 0 : FAULT_OF_FORM - text.place;
        trial.becomeAs(now);
        text.place = 0;
        while (answer >= 0 && answer < MOST_LETTERS && text.place < text.length) {
            int start = text.place;
            answer = text.readStatement(trial) ? answer + 1 : FAULT_OF_SENSE - start;
        }
        if (answer > 0) {
            now.becomeAs(trial);
        }
        text.length = 0;
        return answer;
    }

    public int set(int what, int v) {
        if (what < SPACE || what > LAW) {
            return refuse(OTHER);
        }
        if (isOut(what, v)) {
            return refuse(v < LEAST[what] ? BELOW : ROOM);
        }
        int was = now.measure(what);
        now.changeMeasure(what, v);
        now.beginAnew();
        return was;
    }

    public int wood(int x, int offset) {
        if (isNoInch(x) || isNoOffset(offset)) {
            return refuse(NOBODY);
        }
        return now.hasWood(x, offset) ? 1 : 0;
    }

    public long weight(int offset) {
        if (isNoOffset(offset)) {
            return refuseLong(NOBODY);
        }
        return now.weights[offset];
    }

    public int tool(int kind, int what) {
        if (isNoTool(kind) || what < 0 || what > 2) {
            return refuse(OTHER);
        }
        if (what == 0) {
            return TELLS_WOOD[kind];
        }
        return what == 1 ? TELLS_NONE[kind] : COSTS[kind];
    }

    public int telling(int kind, int x, int is) {
        if (isNoTool(kind)) {
            return refuse(OTHER);
        }
        if (isNoInch(x)) {
            return refuse(NOBODY);
        }
        if (is != 0 && is != 1) {
            return refuse(OTHER);
        }
        if (now.used >= MOST_TELLINGS) {
            return refuse(ROOM);
        }
        now.takeTelling(kind, x, is == 1);
        return now.used;
    }

    public int nail(int x, int is) {
        if (isNoInch(x)) {
            return refuse(NOBODY);
        }
        if (is != 0 && is != 1) {
            return refuse(OTHER);
        }
        if (!now.couldNail(x, is == 1)) {
            return refuse(STATE);
        }
        now.takeNail(x, is == 1);
        return Integer.bitCount(now.open);
    }

    public int pipe(int x, int chance) {
        if (isNoInch(x)) {
            return refuse(NOBODY);
        }
        if (chance < 0) {
            return refuse(BELOW);
        }
        if (chance > MOST_CHANCE || !now.hasRoomForPipe()) {
            return refuse(ROOM);
        }
        now.takePipe(x, chance);
        return now.pipes - 1;
    }

    public int risk(int x) {
        if (isNoInch(x)) {
            return refuse(NOBODY);
        }
        return now.riskAt(x);
    }

    public int hole(int x) {
        if (isNoInch(x)) {
            return refuse(NOBODY);
        }
        return now.holesWithin(x, 1);
    }

    public int fill() {
        int were = Long.bitCount(now.drilled);
        now.drilled = 0;
        return were;
    }

    public long likely(int x, int part) {
        if (isNoInch(x)) {
            return refuseLong(NOBODY);
        }
        if (isNoPart(part)) {
            return refuseLong(OTHER);
        }
        return partOf(now.sums[x], now.total, part);
    }

    public int sure(int what, int i) {
        if (what != 0 && what != 1) {
            return refuse(OTHER);
        }
        if (i < -1) {
            return refuse(BELOW);
        }
        int found = 0;
        for (int x = 0; x < INCHES; x++) {
            if (now.isSure(x, what == 0)) {
                if (found == i) {
                    return x;
                }
                found++;
            }
        }
        return i == -1 ? found : NO_SUCH;
    }

    public int best() {
        return now.likeliest(0, INCHES);
    }

    public int safest() {
        int least = 0;
        for (int x = 1; x < INCHES; x++) {
            if (now.safety(x) > now.safety(least)) {
                least = x;
            }
        }
        return least;
    }

    public int holes(int x) {
        if (isNoInch(x)) {
            return refuse(NOBODY);
        }
        return now.worstTillWood(x);
    }

    public long mean(int x, int part) {
        if (isNoInch(x)) {
            return refuseLong(NOBODY);
        }
        if (isNoPart(part)) {
            return refuseLong(OTHER);
        }
        return partOf(now.allTillWood(x), now.total, part);
    }

    public int from() {
        int least = 0;
        long leastHoles = now.allTillWood(0);
        for (int x = 1; x < INCHES; x++) {
            long these = now.allTillWood(x);
            if (these < leastHoles) {
                least = x;
                leastHoles = these;
            }
        }
        return least;
    }

    public int next(int kind) {
        if (isNoTool(kind)) {
            return refuse(OTHER);
        }
        search.lookWith(now, kind);
        return search.inch;
    }

    public long worth(int kind, int part) {
        if (isNoTool(kind) || isNoPart(part)) {
            return refuseLong(OTHER);
        }
        search.lookWith(now, kind);
        return partOf(search.gain, 10 * now.total, part);
    }

    public int kind() {
        int first = 0;
        long firstGain = 0;
        for (int each = 0; each < TOOLS; each++) {
            search.lookWith(now, each);
            if (search.gain * COSTS[first] > firstGain * COSTS[each]) {
                first = each;
                firstGain = search.gain;
            }
        }
        return first;
    }

    public int covers(int s, int m) {
        if (s < 0 || m < 1) {
            return refuse(BELOW);
        }
        if (m > MOST_WIDTH || s > INCHES - m) {
            return refuse(ROOM);
        }
        return now.holesWithin(s, m);
    }

    public int hang(int m) {
        if (m < 1) {
            return refuse(BELOW);
        }
        if (m > MOST_WIDTH) {
            return refuse(ROOM);
        }
        int least = 0;
        int mostHoles = -1;
        long mostWood = -1;
        for (int s = 0; s <= INCHES - m; s++) {
            int covered = now.holesWithin(s, m);
            long wood = now.sums[now.likeliest(s, s + m)];
            if (covered > mostHoles || (covered == mostHoles && wood > mostWood)) {
                least = s;
                mostHoles = covered;
                mostWood = wood;
            }
        }
        return least;
    }

    public int middle(int m, int w) {
        if (isNoInch(w)) {
            return refuse(NOBODY);
        }
        if (m < 1) {
            return refuse(BELOW);
        }
        if (m > MOST_WIDTH) {
            return refuse(ROOM);
        }
        int all = Long.bitCount(now.drilled);
        int nearest = NO_SUCH;
        int nearestBy = 4 * INCHES;
        for (int s = 0; s <= INCHES - m; s++) {
            int by = Math.abs(2 * s + m - 2 * w);
            if (now.holesWithin(s, m) == all && by < nearestBy) {
                nearest = s;
                nearestBy = by;
            }
        }
        return nearest;
    }

    public int two(int w) {
        if (w < 1) {
            return refuse(BELOW);
        }
        if (w > MOST_WIDTH) {
            return refuse(ROOM);
        }
        return now.likeliestPair(w);
    }

    public long both(int w, int part) {
        if (w < 1) {
            return refuseLong(BELOW);
        }
        if (w > MOST_WIDTH) {
            return refuseLong(ROOM);
        }
        if (isNoPart(part)) {
            return refuseLong(OTHER);
        }
        int x = now.likeliestPair(w);
        return partOf(now.sumAtBoth(x, x + w), now.total, part);
    }

    public int wire(int w, int h) {
        if (w < 1 || h < 0) {
            return refuse(BELOW);
        }
        if (w > MOST_WIDTH || h > MOST_WIDTH) {
            return refuse(ROOM);
        }
        int square = w * w + 4 * h * h;
        int inches = 1;
        while (inches < square && inches * inches < square) {
            inches++;
        }
        return inches;
    }

    public int twin(int y) {
        if (isNoInch(y)) {
            return refuse(NOBODY);
        }
        return Integer.bitCount(now.open & now.woods[LAST_INCH - y]);
    }

    public long twinLikely(int y, int x, int part) {
        if (isNoInch(y) || isNoInch(x)) {
            return refuseLong(NOBODY);
        }
        if (isNoPart(part)) {
            return refuseLong(OTHER);
        }
        int behind = LAST_INCH - y;
        return partOf(now.sumAtBoth(behind, x), now.sums[behind], part);
    }

    public int row(int v) {
        if (v < 0) {
            return refuse(BELOW);
        }
        if (v > LAST_OF_ROW || told.length >= MOST_IN_ROW) {
            return refuse(ROOM);
        }
        told.numbers[told.length] = v;
        told.length++;
        return told.length;
    }

    public int old() {
        return told.offsetsThatFit(now, told.length);
    }

    public long happened(int kind, int part) {
        if (isNoTool(kind) || isNoPart(part)) {
            return refuseLong(OTHER);
        }
        return partOf(told.waysToTell(now, kind), told.allWays(now), part);
    }

    public int judge() {
        int answer = NO_SUCH;
        for (int i = 0; i < told.length && answer == NO_SUCH; i++) {
            if (told.offsetsThatFit(now, i + 1) == 0) {
                answer = i;
            }
        }
        told.length = 0;
        return answer;
    }

    public int lots(int n, int z) {
        if (n < 1) {
            return refuse(BELOW);
        }
        if (n > MOST_WALLS) {
            return refuse(ROOM);
        }
        int nails = 0;
        int seed = z;
        for (int i = 0; i < n; i++) {
            seed = seed * 1664525 + 1013904223;
            nails += now.nailsTillWood(modulo((seed & 0x7fffffff) / 256, now.space));
        }
        return nails;
    }

    public int image() {
        kept.becomeAs(now);
        isKept = true;
        return now.used;
    }

    public int on() {
        if (!isKept) {
            return refuse(STATE);
        }
        now.becomeAs(kept);
        return now.used;
    }

    public int count(int what) {
        if (what > 10 && what <= 10 + KINDS_OF_REFUSALS) {
            return refusals[what - 10];
        }
        switch (what) {
            case 0: return Integer.bitCount(now.open);
            case 1: return now.used;
            case 2: return Long.bitCount(now.drilled);
            case 3: return now.pipes;
            case 4: return now.space;
            case 5: return now.beam;
            case 6: return now.door;
            case 7: return now.law;
            case 8: return told.length;
            case 9: return text.length;
            default: return NO_SUCH;
        }
    }

    private int refuse(int number) {
        refusals[-number]++;
        return number;
    }

    private long refuseLong(int number) {
        return REFUSED_LONG - refuse(number);
    }

    private boolean isNoOffset(int offset) {
        return offset < 0 || offset >= now.space;
    }

    private static boolean isNoInch(int x) {
        return x < 0 || x > LAST_INCH;
    }

    private static boolean isNoTool(int kind) {
        return kind < 0 || kind >= TOOLS;
    }

    private static boolean isOut(int measure, int v) {
        return v < LEAST[measure] || v > GREATEST[measure];
    }

    private static boolean isNoPart(int part) {
        return part != 0 && part != 1;
    }

    private static int modulo(int a, int m) {
        return m < 1 ? 0 : Math.floorMod(a, m);
    }

    private static boolean isIn(int offsets, int o) {
        return (offsets >> o & 1) == 1;
    }

    /** Part 0 is above the line, 1 below it, in least terms. */
    private static long partOf(long above, long below, int part) {
        if (above <= 0 || below <= 0) {
            return part == 0 ? 0 : 1;
        }
        long by = Math.max(commonDivisor(above, below), 1);
        return (part == 0 ? above : below) / by;
    }

    /** The greatest one; of 0 and a number that number. */
    private static long commonDivisor(long a, long b) {
        long divisor = a;
        long rest = b;
        // Two steps halve the numbers at least, and a long can be halved 63 times at most.
        for (int steps = 0; steps < 200 && rest != 0; steps++) {
            long smaller = divisor % rest;
            divisor = rest;
            rest = smaller;
        }
        return divisor;
    }

    /** The tenths with which a tool tells what it tells, where there is wood or none. */
    private static int tenths(int kind, boolean tellsWood, boolean isWood) {
        int rightly = isWood ? TELLS_WOOD[kind] : TELLS_NONE[kind];
        return tellsWood == isWood ? rightly : 10 - rightly;
    }

    /** All that the image keeps: the measures, the weights, the holes and the pipes. */
    private static final class Wall {
        int space = 16;
        int beam = 2;
        int door = 20;
        int law = LEFT;
        int used = 0;
        int pipes = 0;
        /** A bit for each inch that has a hole. */
        long drilled = 0;
        final int[] pipeInches = new int[MOST_PIPES];
        final int[] pipeChances = new int[MOST_PIPES];
        final long[] weights = new long[MOST_OFFSETS];

        // What follows comes of the fields above, and is kept because most questions ask for it.
        /** For each inch a bit for each offset by which there is wood. */
        final int[] woods = new int[INCHES];
        /** For each inch the weights of the offsets by which there is wood, added. */
        final long[] sums = new long[INCHES];
        long total = 0;
        /** A bit for each offset that has weight. */
        int open = 0;

        Wall() {
            beginAnew();
        }

        void becomeAs(Wall other) {
            space = other.space;
            beam = other.beam;
            door = other.door;
            law = other.law;
            used = other.used;
            pipes = other.pipes;
            drilled = other.drilled;
            System.arraycopy(other.pipeInches, 0, pipeInches, 0, MOST_PIPES);
            System.arraycopy(other.pipeChances, 0, pipeChances, 0, MOST_PIPES);
            System.arraycopy(other.weights, 0, weights, 0, MOST_OFFSETS);
            System.arraycopy(other.woods, 0, woods, 0, INCHES);
            System.arraycopy(other.sums, 0, sums, 0, INCHES);
            total = other.total;
            open = other.open;
        }

        int measure(int what) {
            switch (what) {
                case SPACE: return space;
                case BEAM: return beam;
                case DOOR: return door;
                default: return law;
            }
        }

        void changeMeasure(int what, int v) {
            switch (what) {
                case SPACE: space = v; break;
                case BEAM: beam = v; break;
                case DOOR: door = v; break;
                default: law = v; break;
            }
        }

        /** After a change of a measure nothing that was told before holds. */
        void beginAnew() {
            for (int o = 0; o < MOST_OFFSETS; o++) {
                weights[o] = o < space ? 1 : 0;
            }
            used = 0;
            for (int x = 0; x < INCHES; x++) {
                woods[x] = woodsByLaw(x);
            }
            addUp();
        }

        private int woodsByLaw(int x) {
            switch (law) {
                case RIGHT: return byLeft(LAST_INCH - x);
                case DOORED: return byDoored(x);
                case CORNERED: return isCorner(x) ? allOffsets() : byLeft(LAST_INCH - x);
                case HALVED: return byDoored(x) | byDoored(x + space / 2);
                case SHORT: return x < SHORT_FROM ? byLeft(x) : 0;
                default: return byLeft(x);
            }
        }

        /** A beam that begins at x, or one inch ahead of it, and so on, still is at x. */
        private int byLeft(int x) {
            int bits = 0;
            for (int ahead = 0; ahead < beam && space > 0; ahead++) {
                // A beam is narrower than a space, so that one space more lifts this above 0.
                bits |= 1 << (x - ahead + space) % space;
            }
            return bits;
        }

        private int byDoored(int x) {
            return x >= door && x < door + beam ? allOffsets() : byLeft(x);
        }

        private boolean isCorner(int x) {
            return x < beam || x > LAST_INCH - beam;
        }

        private int allOffsets() {
            return (1 << space) - 1;
        }

        boolean hasWood(int x, int o) {
            return isIn(woods[x], o);
        }

        private void addUp() {
            open = 0;
            for (int o = 0; o < MOST_OFFSETS; o++) {
                if (weights[o] > 0) {
                    open |= 1 << o;
                }
            }
            total = sumOf(open);
            for (int x = 0; x < INCHES; x++) {
                sums[x] = sumOf(woods[x]);
            }
        }

        long sumOf(int offsets) {
            long sum = 0;
            for (int o = 0; o < MOST_OFFSETS && offsets >> o != 0; o++) {
                if (isIn(offsets, o)) {
                    sum += weights[o];
                }
            }
            return sum;
        }

        long sumAtBoth(int x, int y) {
            return sumOf(woods[x] & woods[y]);
        }

        void takeTelling(int kind, int x, boolean tellsWood) {
            for (int o = 0; o < MOST_OFFSETS; o++) {
                weights[o] *= tenths(kind, tellsWood, hasWood(x, o));
            }
            used++;
            if (kind == BORE) {
                drill(x);
            }
            lessenWeights();
            addUp();
        }

        private int offsetsByNail(int x, boolean isWood) {
            return open & (isWood ? woods[x] : ~woods[x]);
        }

        boolean couldNail(int x, boolean isWood) {
            return offsetsByNail(x, isWood) != 0;
        }

        void takeNail(int x, boolean isWood) {
            int left = offsetsByNail(x, isWood);
            for (int o = 0; o < MOST_OFFSETS; o++) {
                if (!isIn(left, o)) {
                    weights[o] = 0;
                }
            }
            drill(x);
            lessenWeights();
            addUp();
        }

        private void lessenWeights() {
            long by = 0;
            for (int o = 0; o < MOST_OFFSETS; o++) {
                by = commonDivisor(weights[o], by);
            }
            for (int o = 0; o < MOST_OFFSETS && by > 1; o++) {
                weights[o] /= by;
            }
        }

        private void drill(int x) {
            drilled |= 1L << x;
        }

        int holesWithin(int s, int m) {
            long window = ((1L << m) - 1) << s;
            return Long.bitCount(drilled & window);
        }

        boolean hasRoomForPipe() {
            return pipes < MOST_PIPES;
        }

        void takePipe(int x, int chance) {
            if (hasRoomForPipe()) {
                pipeInches[pipes] = x;
                pipeChances[pipes] = chance;
                pipes++;
            }
        }

        int riskAt(int x) {
            int chances = 0;
            for (int i = 0; i < MOST_PIPES && i < pipes; i++) {
                if (pipeInches[i] == x) {
                    chances += pipeChances[i];
                }
            }
            return Math.min(chances, 10);
        }

        long safety(int x) {
            return sums[x] * (10 - riskAt(x));
        }

        boolean isSure(int x, boolean ofWood) {
            return (open & (ofWood ? ~woods[x] : woods[x])) == 0;
        }

        /** The least of the likeliest inches from one on and below another. */
        int likeliest(int from, int below) {
            int least = from;
            for (int x = from + 1; x < below && x < INCHES; x++) {
                if (sums[x] > sums[least]) {
                    least = x;
                }
            }
            return least;
        }

        int likeliestPair(int apart) {
            int least = 0;
            long most = -1;
            for (int x = 0; x < INCHES - apart; x++) {
                long these = sumAtBoth(x, x + apart);
                if (these > most) {
                    least = x;
                    most = these;
                }
            }
            return least;
        }

        /** Behind how many holes from x on there is wood by an offset; one more than 48: not so. */
        private int tillWood(int x, int o) {
            int at = x;
            int drills = 1;
            while (drills <= INCHES && !hasWood(at, o)) {
                at = modulo(at + beam, INCHES);
                drills++;
            }
            return drills;
        }

        int worstTillWood(int x) {
            int worst = 0;
            for (int o = 0; o < MOST_OFFSETS; o++) {
                if (weights[o] > 0) {
                    worst = Math.max(worst, tillWood(x, o));
                }
            }
            return worst > INCHES ? NO_SUCH : worst;
        }

        /** The mean holes from x on till there is wood, times the total of the weights. */
        long allTillWood(int x) {
            long all = 0;
            for (int o = 0; o < MOST_OFFSETS; o++) {
                if (weights[o] > 0) {
                    all += weights[o] * Math.min(tillWood(x, o), INCHES);
                }
            }
            return all;
        }

        /** With all weights 1 a count of the offsets is all that the best inch asks for. */
        int nailsTillWood(int offset) {
            int left = allOffsets();
            int nails = 0;
            boolean isWood = false;
            while (nails < INCHES && !isWood) {
                int x = inchOfMost(left);
                isWood = hasWood(x, offset);
                left &= ~woods[x];
                nails++;
            }
            return nails;
        }

        private int inchOfMost(int offsets) {
            int least = 0;
            int most = -1;
            for (int x = 0; x < INCHES; x++) {
                int these = Integer.bitCount(woods[x] & offsets);
                if (these > most) {
                    least = x;
                    most = these;
                }
            }
            return least;
        }
    }

    /** Where a tool is used best, and by how much that makes the likeliest inch likelier. */
    private static final class Search {
        int inch = 0;
        /** Worth, times ten times the total of the weights. */
        long gain = 0;
        private final int[] unlike = new int[INCHES];
        private int unlikes = 0;
        private final long[] shared = new long[INCHES];

        void lookWith(Wall wall, int kind) {
            gatherUnlike(wall);
            inch = 0;
            long most = -1;
            for (int i = 0; i < unlikes && i < INCHES; i++) {
                int x = unlike[i];
                for (int j = 0; j < unlikes && j < INCHES; j++) {
                    shared[j] = wall.sumAtBoth(x, unlike[j]);
                }
                long these = greatestThen(wall, kind, true) + greatestThen(wall, kind, false);
                if (these > most) {
                    most = these;
                    inch = x;
                }
            }
            gain = most - 10 * wall.sums[wall.likeliest(0, INCHES)];
        }

        /** Inches with wood by the same offsets answer alike: the least of them stands for all. */
        private void gatherUnlike(Wall wall) {
            unlikes = 0;
            for (int x = 0; x < INCHES; x++) {
                boolean isNew = true;
                for (int i = 0; i < unlikes && i < INCHES && isNew; i++) {
                    isNew = wall.woods[unlike[i]] != wall.woods[x];
                }
                if (isNew && unlikes < INCHES) {
                    unlike[unlikes] = x;
                    unlikes++;
                }
            }
        }

        /** The greatest sum of weights at an inch, each weight times the tenths of what is told. */
        private long greatestThen(Wall wall, int kind, boolean tellsWood) {
            int inWood = tenths(kind, tellsWood, true);
            int inNone = tenths(kind, tellsWood, false);
            long most = 0;
            for (int j = 0; j < unlikes && j < INCHES; j++) {
                long these = inWood * shared[j] + inNone * (wall.sums[unlike[j]] - shared[j]);
                most = Math.max(most, these);
            }
            return most;
        }
    }

    /** Numbers that tell of inches: below 50 that there is none, from 50 on that there is wood. */
    private static final class Row {
        final int[] numbers = new int[MOST_IN_ROW];
        int length = 0;

        private static int inchOf(int number) {
            return number % 50;
        }

        private static boolean tellsWood(int number) {
            return number >= 50;
        }

        private static int offsetsBy(Wall wall, int number) {
            int x = inchOf(number);
            if (isNoInch(x)) {
                return 0;
            }
            return tellsWood(number) ? wall.woods[x] : ~wall.woods[x];
        }

        int offsetsThatFit(Wall wall, int first) {
            int left = wall.open;
            for (int i = 0; i < first && i < MOST_IN_ROW; i++) {
                left &= offsetsBy(wall, numbers[i]);
            }
            return left;
        }

        /** How likely a tool tells all numbers, times what allWays answers. */
        long waysToTell(Wall wall, int kind) {
            long ways = 0;
            for (int o = 0; o < MOST_OFFSETS; o++) {
                long these = wall.weights[o];
                for (int i = 0; i < length && i < MOST_IN_ROW; i++) {
                    these *= tenthsOf(wall, kind, o, numbers[i]);
                }
                ways += these;
            }
            return ways;
        }

        private static int tenthsOf(Wall wall, int kind, int o, int number) {
            int x = inchOf(number);
            if (isNoInch(x)) {
                return 0;
            }
            return tenths(kind, tellsWood(number), wall.hasWood(x, o));
        }

        long allWays(Wall wall) {
            long ways = wall.total;
            for (int i = 0; i < length && i < MOST_IN_ROW; i++) {
                ways *= 10;
            }
            return ways;
        }
    }

    /** The letters of a wall that is told. */
    private static final class Text {
        private static final char DIGIT = '9';
        private static final char DIGIT_OR_NOT = '?';
        private static final char LETTER_OF_LAW = 'l';
        private static final char SIGN = '+';

        final char[] signs = new char[MOST_LETTERS];
        int length = 0;
        int place = 0;

        /** Behind the end there is a sign that fits nowhere. */
        private char signAt(int i) {
            return i < 0 || i >= length || i >= MOST_LETTERS ? (char) 0 : signs[i];
        }

        /** If not all passes, the place is that of the first sign with which no wall can go on. */
        boolean passAll() {
            place = 0;
            boolean passes = true;
            for (int n = 0; passes && (n == 0 || place < length) && n < MOST_LETTERS; n++) {
                passes = passStatement();
            }
            return passes;
        }

        private boolean passStatement() {
            String form = formBehind(signAt(place));
            if (form.isEmpty()) {
                return false;
            }
            place++;
            for (int i = 0; i < form.length(); i++) {
                if (fits(signAt(place), form.charAt(i))) {
                    place++;
                } else if (form.charAt(i) != DIGIT_OR_NOT) {
                    return false;
                }
            }
            return true;
        }

        private static String formBehind(char head) {
            switch (head) {
                case 's': return "9?,9;";
                case 'l': return "l;";
                case 'd': return "99;";
                case 't': return "999+;";
                case 'n': return "99+;";
                case 'p': return "999;";
                default: return "";
            }
        }

        private static boolean fits(char sign, char wanted) {
            switch (wanted) {
                case DIGIT:
                case DIGIT_OR_NOT: return sign >= '0' && sign <= '9';
                case LETTER_OF_LAW: return LAW_LETTERS.indexOf(sign) >= 0;
                case SIGN: return sign == '+' || sign == '-';
                default: return sign == wanted;
            }
        }

        /** Of a text that passes; false: it is not as it must be, and the wall is of no use then. */
        boolean readStatement(Wall wall) {
            char head = signAt(place);
            skipSign();
            switch (head) {
                case 's': return readSpaces(wall);
                case 'l': return readLaw(wall);
                case 'd': return readDoor(wall);
                case 't': return readTelling(wall);
                case 'n': return readNail(wall);
                default: return readPipe(wall);
            }
        }

        private boolean readSpaces(Wall wall) {
            int space = readNumber(signAt(place + 1) == ',' ? 1 : 2);
            skipSign();
            int beam = readNumber(1);
            skipSign();
            if (isOut(SPACE, space) || isOut(BEAM, beam)) {
                return false;
            }
            wall.space = space;
            wall.beam = beam;
            wall.beginAnew();
            return true;
        }

        private boolean readLaw(Wall wall) {
            int law = LAW_LETTERS.indexOf(signAt(place));
            skipSign();
            skipSign();
            wall.law = law;
            wall.beginAnew();
            return true;
        }

        private boolean readDoor(Wall wall) {
            int door = readNumber(2);
            skipSign();
            if (isOut(DOOR, door)) {
                return false;
            }
            wall.door = door;
            wall.beginAnew();
            return true;
        }

        private boolean readTelling(Wall wall) {
            int kind = readNumber(1);
            int x = readNumber(2);
            boolean tellsWood = readPlus();
            skipSign();
            if (isNoTool(kind) || isNoInch(x) || wall.used >= MOST_TELLINGS) {
                return false;
            }
            wall.takeTelling(kind, x, tellsWood);
            return true;
        }

        private boolean readNail(Wall wall) {
            int x = readNumber(2);
            boolean isWood = readPlus();
            skipSign();
            if (isNoInch(x) || !wall.couldNail(x, isWood)) {
                return false;
            }
            wall.takeNail(x, isWood);
            return true;
        }

        private boolean readPipe(Wall wall) {
            int x = readNumber(2);
            int chance = readNumber(1);
            skipSign();
            if (isNoInch(x) || !wall.hasRoomForPipe()) {
                return false;
            }
            wall.takePipe(x, chance);
            return true;
        }

        private int readNumber(int digits) {
            int number = 0;
            for (int i = 0; i < digits; i++) {
                number = 10 * number + signAt(place) - '0';
                skipSign();
            }
            return number;
        }

        private boolean readPlus() {
            boolean isPlus = signAt(place) == '+';
            skipSign();
            return isPlus;
        }

        private void skipSign() {
            place++;
        }
    }
}
