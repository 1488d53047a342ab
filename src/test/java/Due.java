/** Counts and prints the answers that are not the ones that are due. */
final class Due {
    private static int wrong = 0;
    private static String about = "";

    private Due() {
    }

    static void about(String what) {
        about = what;
    }

    static void due(String call, long want, long got) {
        if (want != got) {
            wrong++;
            System.out.println(about + ": " + call + " answered " + got + ", due is " + want);
        }
    }

    static void that(String what, boolean so) {
        due(what, 1, so ? 1 : 0);
    }

    static void end() {
        System.out.println(wrong == 0 ? "all as due" : wrong + " not as due");
        if (wrong != 0) {
            System.exit(1);
        }
    }
}
