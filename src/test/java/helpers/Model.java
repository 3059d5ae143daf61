import java.math.BigInteger;
import java.util.ArrayList;
import java.util.Arrays;
import java.util.List;
import java.util.TreeSet;
import java.util.regex.Matcher;
import java.util.regex.Pattern;

/**
 * The document once more, in the slowest and plainest way, so that it shares no shortcut with the
 * class: every likelihood is added up anew, every telling is tried on a copy, texts go by a regex.
 */
final class Model {
    private static final Pattern STATEMENT = Pattern.compile(
            "(s\\d\\d?,\\d|l[lrdchs]|d\\d\\d|t\\d\\d\\d[+-]|n\\d\\d[+-]|p\\d\\d\\d);");
    private static final Pattern WALL = Pattern.compile("(?:" + STATEMENT.pattern() + ")+");
    private static final int[][] TOOL = {{7, 7, 1}, {4, 9, 3}, {6, 9, 2}, {8, 6, 1}, {9, 9, 5}};

    private static final class Fraction implements Comparable<Fraction> {
        final BigInteger above;
        final BigInteger below;

        Fraction(long above, long below) {
            this(BigInteger.valueOf(above), BigInteger.valueOf(below));
        }

        Fraction(BigInteger a, BigInteger b) {
            BigInteger by = a.gcd(b);
            above = a.divide(by);
            below = b.divide(by);
        }

        Fraction plus(Fraction o) {
            return new Fraction(above.multiply(o.below).add(o.above.multiply(below)), below.multiply(o.below));
        }

        Fraction times(long n) {
            return new Fraction(above.multiply(BigInteger.valueOf(n)), below);
        }

        Fraction by(long n) {
            return new Fraction(above, below.multiply(BigInteger.valueOf(n)));
        }

        long part(int part) {
            return (part == 0 ? above : below).longValueExact();
        }

        @Override
        public int compareTo(Fraction o) {
            return above.multiply(o.below).compareTo(o.above.multiply(below));
        }
    }

    private static final class Things {
        int space = 16;
        int beam = 2;
        int door = 20;
        int law = 0;
        int used = 0;
        long[] weights = ones(16);
        TreeSet<Integer> holes = new TreeSet<>();
        List<int[]> pipes = new ArrayList<>();

        Things copy() {
            Things c = new Things();
            c.space = space;
            c.beam = beam;
            c.door = door;
            c.law = law;
            c.used = used;
            c.weights = weights.clone();
            c.holes = new TreeSet<>(holes);
            c.pipes = new ArrayList<>(pipes);
            return c;
        }

        void again() {
            weights = ones(space);
            used = 0;
        }

        boolean left(int x, int o) {
            int d = x - o;
            while (d < 0) {
                d += space;
            }
            return d % space < beam;
        }

        boolean doored(int x, int o) {
            return left(x, o) || (door <= x && x <= door + beam - 1);
        }

        boolean wood(int x, int o) {
            if (law == 0) {
                return left(x, o);
            } else if (law == 1) {
                return left(47 - x, o);
            } else if (law == 2) {
                return doored(x, o);
            } else if (law == 3) {
                return left(47 - x, o) || x < beam || x > 47 - beam;
            } else if (law == 4) {
                return doored(x, o) || doored(x + space / 2, o);
            }
            return x < 40 && left(x, o);
        }

        long total() {
            return Arrays.stream(weights).sum();
        }

        Fraction likely(int x) {
            long sum = 0;
            for (int o = 0; o < space; o++) {
                sum += wood(x, o) ? weights[o] : 0;
            }
            return new Fraction(sum, total());
        }

        Fraction greatestLikely() {
            Fraction most = likely(0);
            for (int x = 1; x < 48; x++) {
                Fraction f = likely(x);
                most = f.compareTo(most) > 0 ? f : most;
            }
            return most;
        }

        int open() {
            return (int) Arrays.stream(weights).filter(w -> w > 0).count();
        }

        void lessen() {
            BigInteger by = BigInteger.ZERO;
            for (long w : weights) {
                by = by.gcd(BigInteger.valueOf(w));
            }
            for (int o = 0; o < space; o++) {
                weights[o] /= by.longValueExact();
            }
        }

        void telling(int kind, int x, boolean told) {
            for (int o = 0; o < space; o++) {
                weights[o] *= tenths(kind, told, wood(x, o));
            }
            used++;
            if (kind == 4) {
                holes.add(x);
            }
            lessen();
        }

        boolean nail(int x, boolean is) {
            long[] then = weights.clone();
            for (int o = 0; o < space; o++) {
                then[o] = wood(x, o) == is ? then[o] : 0;
            }
            if (Arrays.stream(then).sum() == 0) {
                return false;
            }
            weights = then;
            holes.add(x);
            lessen();
            return true;
        }

        int chances(int x) {
            return pipes.stream().filter(p -> p[0] == x).mapToInt(p -> p[1]).sum();
        }

        int holesTill(int x, int o) {
            for (int k = 1; k <= 48; k++) {
                if (wood((x + (k - 1) * beam) % 48, o)) {
                    return k;
                }
            }
            return -9;
        }

        Fraction mean(int x) {
            long sum = 0;
            for (int o = 0; o < space; o++) {
                int k = holesTill(x, o);
                sum += weights[o] * (k == -9 ? 48 : k);
            }
            return new Fraction(sum, total());
        }

        /** In the mean over what the tool tells: how likely it tells that, times the greatest then. */
        Fraction meanGreatest(int kind, int x) {
            Fraction mean = new Fraction(0, 1);
            for (boolean told : new boolean[] {true, false}) {
                long tells = 0;
                for (int o = 0; o < space; o++) {
                    tells += weights[o] * tenths(kind, told, wood(x, o));
                }
                Things then = copy();
                then.telling(kind, x, told);
                Fraction greatest = then.greatestLikely();
                mean = mean.plus(new Fraction(greatest.above.multiply(BigInteger.valueOf(tells)),
                        greatest.below.multiply(BigInteger.valueOf(10 * total()))));
            }
            return mean;
        }

        int next(int kind) {
            int best = 0;
            Fraction most = new Fraction(-1, 1);
            for (int x = 0; x < 48; x++) {
                Fraction f = meanGreatest(kind, x);
                if (f.compareTo(most) > 0) {
                    most = f;
                    best = x;
                }
            }
            return best;
        }

        Fraction worth(int kind) {
            return meanGreatest(kind, next(kind)).plus(greatestLikely().times(-1));
        }

        int covers(int s, int m) {
            return holes.subSet(s, s + m).size();
        }

        Fraction both(int x, int w) {
            long sum = 0;
            for (int o = 0; o < space; o++) {
                sum += wood(x, o) && wood(x + w, o) ? weights[o] : 0;
            }
            return new Fraction(sum, total());
        }

        int two(int w) {
            int best = 0;
            for (int x = 0; x + w < 48; x++) {
                best = both(x, w).compareTo(both(best, w)) > 0 ? x : best;
            }
            return best;
        }
    }

    private Things things = new Things();
    private Things image = null;
    private final List<Integer> row = new ArrayList<>();
    private String letters = "";
    private final int[] refusals = new int[7];

    private static long[] ones(int n) {
        long[] w = new long[n];
        Arrays.fill(w, 1);
        return w;
    }

    private static int tenths(int kind, boolean told, boolean is) {
        int right = TOOL[kind][is ? 0 : 1];
        return told == is ? right : 10 - right;
    }

    private static boolean in(int v, int least, int most) {
        return least <= v && v <= most;
    }

    /** What is due when a method of the class is called; longs are refused as longs. */
    long call(String name, int... a) {
        int refusal = refusal(name, a);
        if (refusal == 0) {
            return answer(name, a);
        }
        refusals[-refusal]++;
        boolean isLong = List.of("weight", "likely", "mean", "worth", "both", "twinLikely", "happened").contains(name);
        return isLong ? 4000000000000000000L - refusal : refusal;
    }

    /** The conditions in the order in which the promise tells them: condition, number, ... */
    private static int first(Object... rules) {
        for (int i = 0; i < rules.length; i += 2) {
            if ((Boolean) rules[i]) {
                return (Integer) rules[i + 1];
            }
        }
        return 0;
    }

    private int refusal(String name, int[] a) {
        int p = a.length > 0 ? a[0] : 0;
        int q = a.length > 1 ? a[1] : 0;
        int r = a.length > 2 ? a[2] : 0;
        int[] least = {6, 1, 0, 0};
        int[] most = {24, 4, 47, 5};
        switch (name) {
            case "letter": return first(p < 0, -4, p > 255, -6, letters.length() == 96, -6);
            case "set":
                if (!in(p, 0, 3)) {
                    return -2;
                }
                return first(q < least[p], -4, q > most[p], -6);
            case "wood": return first(!in(p, 0, 47), -1, !in(q, 0, things.space - 1), -1);
            case "weight": return first(!in(p, 0, things.space - 1), -1);
            case "tool": return first(!in(p, 0, 4), -2, !in(q, 0, 2), -2);
            case "telling":
                return first(!in(p, 0, 4), -2, !in(q, 0, 47), -1, !in(r, 0, 1), -2, things.used == 6, -6);
            case "nail":
                return first(!in(p, 0, 47), -1, !in(q, 0, 1), -2,
                        in(p, 0, 47) && !things.copy().nail(p, q == 1), -3);
            case "pipe": return first(!in(p, 0, 47), -1, q < 0, -4, q > 9, -6, things.pipes.size() == 6, -6);
            case "risk": case "hole": case "holes": case "twin": return first(!in(p, 0, 47), -1);
            case "likely": case "mean": return first(!in(p, 0, 47), -1, !in(q, 0, 1), -2);
            case "sure": return first(!in(p, 0, 1), -2, q < -1, -4);
            case "next": return first(!in(p, 0, 4), -2);
            case "worth": case "happened": return first(!in(p, 0, 4), -2, !in(q, 0, 1), -2);
            case "covers": return first(p < 0, -4, q < 1, -4, q > 40, -6, (long) p + q > 48, -6);
            case "hang": case "two": return first(p < 1, -4, p > 40, -6);
            case "middle": return first(!in(q, 0, 47), -1, p < 1, -4, p > 40, -6);
            case "both": return first(p < 1, -4, p > 40, -6, !in(q, 0, 1), -2);
            case "wire": return first(p < 1, -4, q < 0, -4, p > 40, -6, q > 40, -6);
            case "twinLikely": return first(!in(p, 0, 47), -1, !in(q, 0, 47), -1, !in(r, 0, 1), -2);
            case "row": return first(p < 0, -4, p > 99, -6, row.size() == 8, -6);
            case "lots": return first(p < 1, -4, p > 30, -6);
            case "on": return first(image == null, -3);
            default: return 0;
        }
    }

    private long answer(String name, int[] a) {
        Things t = things;
        switch (name) {
            case "letter":
                letters += (char) a[0];
                return letters.length();
            case "wall": return wall();
            case "set": return set(a[0], a[1]);
            case "wood": return t.wood(a[0], a[1]) ? 1 : 0;
            case "weight": return t.weights[a[0]];
            case "tool": return TOOL[a[0]][a[1]];
            case "telling":
                t.telling(a[0], a[1], a[2] == 1);
                return t.used;
            case "nail":
                t.nail(a[0], a[1] == 1);
                return t.open();
            case "pipe":
                t.pipes.add(new int[] {a[0], a[1]});
                return t.pipes.size() - 1;
            case "risk": return Math.min(10, t.chances(a[0]));
            case "hole": return t.holes.contains(a[0]) ? 1 : 0;
            case "fill":
                int were = t.holes.size();
                t.holes.clear();
                return were;
            case "likely": return t.likely(a[0]).part(a[1]);
            case "sure": return sure(a[0], a[1]);
            case "image":
                image = t.copy();
                return t.used;
            case "on":
                things = image.copy();
                return things.used;
            case "count": return count(a[0]);
            default: return answerOfPlaces(name, a);
        }
    }

    private long answerOfPlaces(String name, int[] a) {
        Things t = things;
        switch (name) {
            case "best": return best(t);
            case "safest": return safest();
            case "holes":
                int worst = 0;
                for (int o = 0; o < t.space; o++) {
                    if (t.weights[o] > 0) {
                        int k = t.holesTill(a[0], o);
                        if (k == -9) {
                            return -9;
                        }
                        worst = Math.max(worst, k);
                    }
                }
                return worst;
            case "mean": return t.mean(a[0]).part(a[1]);
            case "from":
                int from = 0;
                for (int x = 1; x < 48; x++) {
                    from = t.mean(x).compareTo(t.mean(from)) < 0 ? x : from;
                }
                return from;
            case "next": return t.next(a[0]);
            case "worth": return t.worth(a[0]).part(a[1]);
            case "kind":
                int kind = 0;
                Fraction most = t.worth(0).by(TOOL[0][2]);
                for (int k = 1; k < 5; k++) {
                    Fraction f = t.worth(k).by(TOOL[k][2]);
                    if (f.compareTo(most) > 0) {
                        kind = k;
                        most = f;
                    }
                }
                return kind;
            case "covers": return t.covers(a[0], a[1]);
            case "hang": return hang(a[0]);
            case "middle": return middle(a[0], a[1]);
            case "two": return t.two(a[0]);
            case "both": return t.both(t.two(a[0]), a[0]).part(a[1]);
            case "wire": return (long) Math.ceil(Math.sqrt(a[0] * a[0] + 4 * a[1] * a[1]));
            default: return answerOfWhatIf(name, a);
        }
    }

    private long answerOfWhatIf(String name, int[] a) {
        switch (name) {
            case "twin": {
                Things then = things.copy();
                return then.nail(47 - a[0], true) ? then.open() : 0;
            }
            case "twinLikely": {
                Things then = things.copy();
                boolean left = then.nail(47 - a[0], true);
                return left ? then.likely(a[1]).part(a[2]) : a[2];
            }
            case "row":
                row.add(a[0]);
                return row.size();
            case "old": return old();
            case "happened": return happened(a[0]).part(a[1]);
            case "judge": return judge();
            case "lots": return lots(a[0], a[1]);
            default: throw new IllegalArgumentException(name);
        }
    }

    private int set(int what, int v) {
        int[] was = {things.space, things.beam, things.door, things.law};
        if (what == 0) {
            things.space = v;
        } else if (what == 1) {
            things.beam = v;
        } else if (what == 2) {
            things.door = v;
        } else {
            things.law = v;
        }
        things.again();
        return was[what];
    }

    private int sure(int what, int i) {
        List<Integer> inches = new ArrayList<>();
        for (int x = 0; x < 48; x++) {
            Fraction f = things.likely(x);
            if (f.compareTo(new Fraction(1 - what, 1)) == 0) {
                inches.add(x);
            }
        }
        if (i == -1) {
            return inches.size();
        }
        return i < inches.size() ? inches.get(i) : -9;
    }

    private static int best(Things t) {
        int best = 0;
        for (int x = 1; x < 48; x++) {
            best = t.likely(x).compareTo(t.likely(best)) > 0 ? x : best;
        }
        return best;
    }

    private int safest() {
        int best = 0;
        Fraction most = new Fraction(-1, 1);
        for (int x = 0; x < 48; x++) {
            Fraction f = things.likely(x).times(Math.max(0, 10 - things.chances(x)));
            if (f.compareTo(most) > 0) {
                best = x;
                most = f;
            }
        }
        return best;
    }

    private int hang(int m) {
        int best = -1;
        int covered = -1;
        Fraction wood = new Fraction(0, 1);
        for (int s = 0; s <= 48 - m; s++) {
            Fraction most = things.likely(s);
            for (int x = s; x < s + m; x++) {
                most = things.likely(x).compareTo(most) > 0 ? things.likely(x) : most;
            }
            int c = things.covers(s, m);
            if (c > covered || (c == covered && most.compareTo(wood) > 0)) {
                best = s;
                covered = c;
                wood = most;
            }
        }
        return best;
    }

    private int middle(int m, int w) {
        int best = -9;
        for (int s = 48 - m; s >= 0; s--) {
            boolean all = things.covers(s, m) == things.holes.size();
            if (all && (best == -9 || Math.abs(2 * s + m - 2 * w) <= Math.abs(2 * best + m - 2 * w))) {
                best = s;
            }
        }
        return best;
    }

    private static boolean isInch(int v) {
        return in(v, 0, 47) || in(v, 50, 97);
    }

    private boolean asTold(int v, int o) {
        return v < 50 ? !things.wood(v, o) : things.wood(v - 50, o);
    }

    private long old() {
        long bits = 0;
        for (int o = 0; o < things.space; o++) {
            boolean all = things.weights[o] > 0;
            for (int v : row) {
                all = all && isInch(v) && asTold(v, o);
            }
            bits += all ? 1L << o : 0;
        }
        return bits;
    }

    private Fraction happened(int kind) {
        Fraction sum = new Fraction(0, 1);
        for (int o = 0; o < things.space; o++) {
            Fraction f = new Fraction(things.weights[o], things.total());
            for (int v : row) {
                if (!isInch(v)) {
                    return new Fraction(0, 1);
                }
                f = f.times(tenths(kind, v >= 50, things.wood(v % 50, o))).by(10);
            }
            sum = sum.plus(f);
        }
        return sum;
    }

    private int judge() {
        Things then = things.copy();
        int answer = -9;
        for (int i = 0; i < row.size() && answer == -9; i++) {
            int v = row.get(i);
            if (!isInch(v) || !then.nail(v % 50, v >= 50)) {
                answer = i;
            }
        }
        row.clear();
        return answer;
    }

    private int lots(int n, int z) {
        int nails = 0;
        for (int i = 0; i < n; i++) {
            z = z * 1664525 + 1013904223;
            int o = (int) ((z & 0x7fffffffL) / 256 % things.space);
            Things w = things.copy();
            w.again();
            for (int k = 0; k < 48; k++) {
                int x = best(w);
                nails++;
                if (w.wood(x, o)) {
                    break;
                }
                w.nail(x, false);
            }
        }
        return nails;
    }

    private int count(int what) {
        int[] known = {things.open(), things.used, things.holes.size(), things.pipes.size(), things.space,
            things.beam, things.door, things.law, row.size(), letters.length()};
        if (in(what, 11, 16)) {
            return refusals[what - 10];
        }
        return in(what, 0, 9) ? known[what] : -9;
    }

    private long wall() {
        String text = letters;
        letters = "";
        for (int k = 0; k < text.length(); k++) {
            Matcher m = WALL.matcher(text.substring(0, k + 1));
            if (!m.matches() && !m.hitEnd()) {
                return -1000 - k;
            }
        }
        if (!WALL.matcher(text).matches()) {
            return -1000 - text.length();
        }
        Things then = things.copy();
        Matcher each = STATEMENT.matcher(text);
        int statements = 0;
        while (each.find()) {
            if (!statement(then, each.group(1))) {
                return -2000 - each.start();
            }
            statements++;
        }
        things = then;
        return statements;
    }

    private static boolean statement(Things t, String s) {
        String rest = s.substring(1);
        switch (s.charAt(0)) {
            case 's': {
                String[] parts = rest.split(",");
                t.space = Integer.parseInt(parts[0]);
                t.beam = Integer.parseInt(parts[1]);
                t.again();
                return in(t.space, 6, 24) && in(t.beam, 1, 4);
            }
            case 'l':
                t.law = "lrdchs".indexOf(rest);
                t.again();
                return true;
            case 'd':
                t.door = Integer.parseInt(rest);
                t.again();
                return in(t.door, 0, 47);
            case 't': {
                int kind = Integer.parseInt(rest.substring(0, 1));
                int x = Integer.parseInt(rest.substring(1, 3));
                if (kind > 4 || x > 47 || t.used == 6) {
                    return false;
                }
                t.telling(kind, x, rest.endsWith("+"));
                return true;
            }
            case 'n': {
                int x = Integer.parseInt(rest.substring(0, 2));
                return x < 48 && t.nail(x, rest.endsWith("+"));
            }
            default: {
                int x = Integer.parseInt(rest.substring(0, 2));
                t.pipes.add(new int[] {x, Integer.parseInt(rest.substring(2))});
                return x < 48 && t.pipes.size() <= 6;
            }
        }
    }
}
