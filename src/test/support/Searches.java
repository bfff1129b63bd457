/**
 * Runs that lead up to a search whose TRIES can be counted by hand. Bundle 0 is the one to be
 * resolved. Bundles 2 to 5 are RESOLVED before it, so that each of their EXPORTS is a CANDIDATE
 * and brings no TASK; bundle 1 has an IMPORT that nobody exports, so that no choice of it lasts.
 */
final class Searches {
    private Searches() {
    }

    /**
     * The TASKS have 2, 1, 4, 6, 5 and 0 CANDIDATES: 2 + 2 * 1 + 2 * 4 + 8 * 6 + 48 * 5 = 300 TRIES,
     * and none is left.
     */
    static String unsolvableAfter300(int level, int activator) {
        return sixBundles(level, activator) + resolvedFour("") + twoThatFail();
    }

    /** As the one before, but the first TASK has a third CANDIDATE: that would be the 301st TRY. */
    static String tooHard(int level, int activator) {
        return sixBundles(level, activator) + resolvedFour("export 4 0 0 -> 3\n") + twoThatFail();
    }

    /**
     * The first CANDIDATE of the first TASK is bundle 1; behind it the TASKS have 5, 2, 4, 6 and 0
     * CANDIDATES: 1 + 5 + 10 + 40 + 240 = 296 TRIES. Then bundle 6 is chosen, and the two TASKS of
     * bundle 0 and the one of bundle 6 each hold with their first CANDIDATE: 300 in all.
     */
    static String solvedBy300() {
        return solvedByBundleSix("");
    }

    /** As the one before, but bundle 6 has one more TASK, which the 301st TRY would solve. */
    static String solvedBy301() {
        return solvedByBundleSix("need 6 4 0 9 -> 2\n");
    }

    private static String sixBundles(int level, int activator) {
        return "install 0 0 " + level + " " + activator + " -> 1\n" + """
            install 1 1 1 0 -> 2
            install 2 2 1 0 -> 3
            install 3 3 1 0 -> 4
            install 4 4 1 0 -> 5
            install 5 5 1 0 -> 6
            """;
    }

    private static String resolvedFour(String more) {
        return """
            export 2 10 0 -> 1
            export 2 3 0 -> 2
            export 2 0 0 -> 3
            export 3 10 0 -> 1
            export 3 3 0 -> 2
            export 3 0 0 -> 3
            export 4 10 0 -> 1
            export 4 3 0 -> 2
            export 5 10 0 -> 1
            export 5 3 0 -> 2
            """ + more + """
            resolve 2 -> 1
            resolve 3 -> 1
            resolve 4 -> 1
            resolve 5 -> 1
            """;
    }

    private static String twoThatFail() {
        return """
            export 0 2 0 -> 1
            export 0 3 0 -> 2
            export 1 1 0 -> 1
            export 1 2 0 -> 2
            need 0 0 0 9 -> 1
            need 0 1 0 9 -> 2
            need 0 2 1 9 -> 3
            need 1 2 0 9 -> 1
            need 1 3 0 9 -> 2
            need 1 4 0 9 -> 3
            """;
    }

    private static String solvedByBundleSix(String more) {
        return sixBundles(1, 0) + """
            install 6 1 1 0 -> 7
            export 2 10 0 -> 1
            export 2 4 0 -> 2
            export 2 3 0 -> 3
            export 3 10 0 -> 1
            export 3 4 0 -> 2
            export 3 3 0 -> 3
            export 4 10 0 -> 1
            export 4 4 0 -> 2
            export 5 10 0 -> 1
            export 5 4 0 -> 2
            resolve 2 -> 1
            resolve 3 -> 1
            resolve 4 -> 1
            resolve 5 -> 1
            export 0 2 0 -> 1
            export 0 4 0 -> 2
            export 1 8 0 -> 1
            export 1 4 0 -> 2
            export 6 0 0 -> 1
            need 0 0 0 9 -> 1
            need 0 2 0 9 -> 2
            need 0 3 0 9 -> 3
            need 1 2 1 9 -> 1
            need 1 4 0 9 -> 2
            need 1 5 0 9 -> 3
            need 6 2 0 9 -> 1
            """ + more;
    }
}
