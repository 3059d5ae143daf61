import java.lang.reflect.InvocationTargetException;
import java.lang.reflect.Method;
import java.lang.reflect.Modifier;
import java.util.ArrayList;
import java.util.Arrays;
import java.util.HashMap;
import java.util.List;
import java.util.Map;

/**
 * A run of calls on a new object, kept so that it can be made again: what a call leaves unchanged is
 * seen by holding an object that has had the call against one that has not.
 */
final class Run {
    private static final Map<String, Method> METHODS = methods();
    /** Where the refusals -1 .. -6 stand among the answers of the first look. */
    private static final int FIRST_REFUSAL = 10;

    private record Call(String name, int... a) {
        long on(ANailInTheWall object) {
            try {
                return ((Number) METHODS.get(name).invoke(object, Arrays.stream(a).boxed().toArray())).longValue();
            } catch (InvocationTargetException e) {
                throw new IllegalStateException(this + " threw " + e.getCause());
            } catch (IllegalAccessException e) {
                throw new IllegalStateException(e);
            }
        }

        @Override
        public String toString() {
            String all = Arrays.toString(a);
            return name + "(" + all.substring(1, all.length() - 1) + ")";
        }
    }

    private final List<Call> calls = new ArrayList<>();
    private final ANailInTheWall object = new ANailInTheWall();
    private final Model model = new Model();

    private static Map<String, Method> methods() {
        Map<String, Method> found = new HashMap<>();
        for (Method m : ANailInTheWall.class.getDeclaredMethods()) {
            if (Modifier.isPublic(m.getModifiers())) {
                found.put(m.getName(), m);
            }
        }
        return found;
    }

    /** What is answered, held against the slow model. */
    long ask(String name, int... a) {
        Call call = new Call(name, a);
        calls.add(call);
        long answer = call.on(object);
        Checks.due(call + " by the model", answer, model.call(name, a));
        return answer;
    }

    void due(long want, String name, int... a) {
        Checks.due(new Call(name, a).toString(), ask(name, a), want);
    }

    void dueFraction(long above, long below, String name, int... a) {
        int[] more = Arrays.copyOf(a, a.length + 1);
        due(above, name, more.clone());
        more[a.length] = 1;
        due(below, name, more);
    }

    /** An answer that is none of the refusals, and counts as none. */
    void good(String name, int... a) {
        long before = refusals();
        ask(name, a);
        Checks.due("refusals by " + new Call(name, a), refusals(), before);
    }

    private long refusals() {
        long all = 0;
        for (int what = 11; what <= 16; what++) {
            all += ask("count", what);
        }
        return all;
    }

    /** The call is refused by the number, and nothing changes by it but how many refusals there were. */
    void refused(int number, String name, int... a) {
        Call call = new Call(name, a);
        boolean isLong = METHODS.get(name).getReturnType() == long.class;
        List<long[]> due = looks(calls, true);
        due.get(0)[FIRST_REFUSAL - 1 - number]++;
        due(isLong ? 4000000000000000000L - number : number, name, a);
        same("behind " + call, looks(calls, true), due);
    }

    /** The letters are told to the wall that there is; with a fault they are gone, and that is all. */
    void wall(int want, String text) {
        List<long[]> due = looks(calls, false);
        letters(text);
        Checks.due("wall() of \"" + text + "\"", ask("wall"), want);
        due(0, "count", 9);
        if (want < 0) {
            same("behind the fault of \"" + text + "\"", looks(calls, false), due);
        }
    }

    void letters(String text) {
        for (int i = 0; i < text.length(); i++) {
            ask("letter", text.charAt(i));
        }
    }

    /** The same call, so many times. */
    void times(int n, String name, int... a) {
        for (int i = 0; i < n; i++) {
            ask(name, a);
        }
    }

    private static void same(String what, List<long[]> got, List<long[]> due) {
        for (int i = 0; i < due.size(); i++) {
            Checks.dueTrue(what + " look " + i + " sees " + Arrays.toString(got.get(i)) + ", due is "
                    + Arrays.toString(due.get(i)), Arrays.equals(got.get(i), due.get(i)));
        }
    }

    /** Each look is at an object of its own, as some change what they look at. */
    private static List<long[]> looks(List<Call> calls, boolean withLetters) {
        List<long[]> looks = new ArrayList<>();
        looks.add(look(calls, things(withLetters)));
        looks.add(look(calls, likelihoods()));
        looks.add(look(calls, places()));
        looks.add(look(calls, row()));
        looks.add(look(calls, behind("on")));
        if (withLetters) {
            looks.add(look(calls, behind("wall")));
        }
        return looks;
    }

    private static long[] look(List<Call> calls, List<Call> questions) {
        ANailInTheWall again = new ANailInTheWall();
        calls.forEach(c -> c.on(again));
        return questions.stream().mapToLong(c -> c.on(again)).toArray();
    }

    private static List<Call> things(boolean withLetters) {
        List<Call> q = new ArrayList<>();
        for (int what = 0; what <= 16; what++) {
            // There is no count 10; letters are left out by asking what always is the same.
            if (what != 10) {
                q.add(new Call("count", what == 9 && !withLetters ? -1 : what));
            }
        }
        for (int o = 0; o < 24; o++) {
            q.add(new Call("weight", o));
        }
        for (int x = 0; x < 48; x++) {
            q.add(new Call("hole", x));
            q.add(new Call("risk", x));
        }
        return q;
    }

    private static List<Call> likelihoods() {
        List<Call> q = new ArrayList<>();
        for (int x = 0; x < 48; x++) {
            q.add(new Call("likely", x, 0));
            q.add(new Call("likely", x, 1));
            q.add(new Call("wood", x, x % 6));
        }
        return q;
    }

    private static List<Call> places() {
        List<Call> q = new ArrayList<>();
        for (String name : new String[] {"best", "safest", "from", "kind"}) {
            q.add(new Call(name));
        }
        for (int x = 0; x < 48; x += 5) {
            q.add(new Call("holes", x));
            q.add(new Call("mean", x, 0));
            q.add(new Call("twin", x));
        }
        for (int m = 1; m <= 40; m += 13) {
            q.add(new Call("hang", m));
            q.add(new Call("middle", m, 20));
            q.add(new Call("two", m));
        }
        q.add(new Call("lots", 9, 9));
        return q;
    }

    private static List<Call> row() {
        List<Call> q = new ArrayList<>();
        q.add(new Call("old"));
        for (int kind = 0; kind < 5; kind++) {
            q.add(new Call("happened", kind, 0));
            q.add(new Call("happened", kind, 1));
        }
        q.add(new Call("judge"));
        q.add(new Call("count", 8));
        return q;
    }

    private static List<Call> behind(String name) {
        List<Call> q = new ArrayList<>();
        q.add(new Call(name));
        q.addAll(things(true).subList(0, FIRST_REFUSAL));
        q.addAll(things(true).subList(FIRST_REFUSAL + 6, FIRST_REFUSAL + 6 + 24 + 96));
        return q;
    }
}
