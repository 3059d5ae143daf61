import java.util.HashSet;
import java.util.Set;
import java.util.TreeMap;

/** Tests that each have a promise and a case for a name, and a new object for themselves. */
final class Cases {
    interface Case {
        void with(Run run);
    }

    private final Set<String> names = new HashSet<>();
    private final TreeMap<Integer, Integer> perPromise = new TreeMap<>();

    void promise(int number, String what, Case each) {
        String name = String.format("promise %02d, %s", number, what);
        Checks.in(name);
        Checks.dueTrue("another case has this name", names.add(name));
        perPromise.merge(number, 1, Integer::sum);
        try {
            each.with(new Run());
        } catch (IllegalStateException e) {
            Checks.dueTrue(e.getMessage(), false);
        }
    }

    /** The promises that must have a case here; an empty list of cases is no success. */
    void end(int... promises) {
        Checks.in("the list of cases");
        for (int number : promises) {
            Checks.dueTrue("promise " + number + " has no case", perPromise.containsKey(number));
        }
        System.out.println(names.size() + " cases of " + perPromise.size() + " promises");
        Checks.end();
    }
}
