import java.util.List;

/** Compares answers with those that are due, prints each wrong one, and ends with exit code 1 if there was one. */
final class Due {
    private static int asked = 0;
    private static int wrong = 0;

    private Due() {
    }

    static void whole(String call, long want, long got) {
        count(call, want == got, "" + want, "" + got);
    }

    /** Numbers are compared to the last bit, but for the sign of 0.0. */
    static void number(String call, double want, double got) {
        count(call, want == got, "" + want, "" + got);
    }

    static void yes(String call, boolean got) {
        count(call, got, "true", "" + got);
    }

    static void no(String call, boolean got) {
        count(call, !got, "false", "" + got);
    }

    /** Of two objects that must answer alike. */
    static void same(String call, List<String> want, List<String> got) {
        count(call + ", answers", want.size() == got.size(), "" + want.size(), "" + got.size());
        for (int i = 0; i < want.size() && i < got.size(); i++) {
            count(call, want.get(i).equals(got.get(i)), want.get(i), got.get(i));
        }
    }

    static void end() {
        System.out.println(asked + " answers asked, " + wrong + " wrong");
        if (wrong != 0 || asked == 0) {
            System.exit(1);
        }
    }

    private static void count(String call, boolean right, String want, String got) {
        asked++;
        if (!right) {
            wrong++;
            System.out.println(call + " answered " + got + ", due is " + want);
        }
    }
}
