/** Counts the answers that are looked at, and prints those that are not as due. */
final class Checks {
    private static int looked = 0;
    private static int wrong = 0;
    private static String where = "";

    private Checks() {
    }

    static void in(String place) {
        where = place;
    }

    static void due(String call, long got, long want) {
        looked++;
        if (got != want) {
            wrong++;
            System.out.println(where + ": " + call + " answered " + got + ", due is " + want);
        }
    }

    static void dueTrue(String what, boolean holds) {
        looked++;
        if (!holds) {
            wrong++;
            System.out.println(where + ": " + what);
        }
    }

    static boolean tooManyWrong() {
        return wrong > 20;
    }

    static void end() {
        System.out.println(looked + " answers looked at, " + wrong + " wrong");
        if (wrong != 0 || looked == 0) {
            System.exit(1);
        }
    }
}
