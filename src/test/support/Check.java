/** Counts answers that are not as due, and ends with 1 if there was one. */
final class Check {
    private static int wrong = 0;
    private static int all = 0;

    private Check() {
    }

    static void due(String call, long got, long want) {
        all++;
        if (got != want) {
            wrong++;
            if (wrong <= 40) {
                System.out.println(call + " answered " + got + ", due is " + want);
            }
        }
    }

    static void due(String call, boolean got, boolean want) {
        due(call, got ? 1 : 0, want ? 1 : 0);
    }

    static void end() {
        System.out.println(all + " answers, " + wrong + " not as due");
        if (wrong != 0) {
            System.exit(1);
        }
    }
}
