/** The terms of RESOLVING: CANDIDATES, NAMES, TRIES, CLASH, optional IMPORTS, TOO HARD. */
public final class ResolvingTest {
    private static final Script SCRIPT = new Script();

    public static void main(String[] args) {
        orderOfCandidates();
        versionsInRange();
        names();
        tasksComeBehind();
        clashBelow();
        clashWithOwnExport();
        clashNeedsTwoSources();
        clashWithPortsThere();
        clashWithOldPort();
        cycle();
        undoing();
        optionals();
        optionalsAndClash();
        optionalOfAnotherClashes();
        threeHundredTries();
        tooHard();
        tooHardIsPassedOver();
        SCRIPT.end();
    }

    private static void orderOfCandidates() {
        SCRIPT.run("promise 5, order of candidates", """
            install 0 0 1 0 -> 1
            install 1 1 1 0 -> 2
            install 2 2 1 0 -> 3
            install 3 3 1 0 -> 4
            install 4 4 1 0 -> 5
            install 5 5 1 0 -> 6
            export 1 8 0 -> 1
            export 2 16 0 -> 1
            export 3 16 0 -> 1
            export 4 0 0 -> 1
            # the greater VERSION, then the lesser BUNDLE
            need 0 0 0 9 -> 1
            resolve 0 -> 2
            about 0 5 -> 2
            count 4 -> 1
            # RESOLVED ones come before greater VERSIONS
            update 2 -> 1
            update 0 -> 0
            need 0 0 0 9 -> 1
            resolve 4 -> 1
            resolve 0 -> 1
            about 0 5 -> 4
            # of two RESOLVED ones the greater VERSION, ACTIVE or not
            resolve 1 -> 1
            start 4 -> 1
            need 5 0 0 9 -> 1
            resolve 5 -> 1
            about 5 5 -> 1
            # not LOW enough for those: an INSTALLED one
            update 5 -> 0
            need 5 0 2 9 -> 1
            resolve 5 -> 2
            about 5 5 -> 3
            """);
    }

    private static void versionsInRange() {
        SCRIPT.run("promise 5, versions in range", """
            install 0 0 1 0 -> 1
            install 1 1 1 0 -> 2
            export 0 40 0 -> 1
            need 1 0 6 9 -> 1
            resolve 1 -> ISE
            update 1 -> 0
            need 1 0 0 4 -> 1
            resolve 1 -> ISE
            update 1 -> 0
            need 1 0 6 4 -> 1
            resolve 1 -> ISE
            count 4 -> 0
            update 1 -> 0
            need 1 0 5 5 -> 1
            resolve 1 -> 2
            """);
    }

    private static void names() {
        SCRIPT.run("promise 5, a NAME once among RESOLVED and TAKEN IN ones", """
            install 0 0 1 0 -> 1
            install 1 0 1 0 -> 2
            install 2 1 1 0 -> 3
            export 1 0 0 -> 1
            need 0 0 0 9 -> 1
            # 1 has the NAME of 0, which is TAKEN IN
            resolve 0 -> ISE
            count 4 -> 0
            need 2 0 0 9 -> 1
            resolve 2 -> 2
            resolve 0 -> ISE
            start 0 -> ISE
            about 0 1 -> 1
            uninstall 2 -> 0
            uninstall 1 -> 0
            export 0 0 0 -> 1
            # a BUNDLE can be a CANDIDATE for itself
            resolve 0 -> 1
            about 0 5 -> 0
            """);
        SCRIPT.run("promise 5, a NAME that is TAKEN IN by a choice", """
            install 0 0 1 0 -> 1
            install 1 1 1 0 -> 2
            install 2 1 1 0 -> 3
            export 1 8 0 -> 1
            export 2 0 0 -> 1
            export 2 1 0 -> 2
            need 0 0 0 9 -> 1
            need 0 1 0 9 -> 2
            # 1 is tried, then 2 can't give package 1; 2 gives both
            resolve 0 -> 2
            count 4 -> 3
            about 0 5 -> 2
            about 0 6 -> 2
            about 1 0 -> 1
            """);
    }

    private static void tasksComeBehind() {
        SCRIPT.run("promise 5, tasks of one that is taken in come behind", """
            install 0 0 1 0 -> 1
            install 1 1 1 0 -> 2
            install 2 2 1 0 -> 3
            install 3 3 1 0 -> 4
            need 0 0 0 9 -> 1
            need 0 1 0 9 -> 2
            export 1 0 0 -> 1
            # bundle 1 needs what nobody has: that shows behind both choices for package 1
            need 1 7 0 9 -> 1
            export 2 1 0 -> 1
            export 3 1 0 -> 1
            resolve 0 -> ISE
            count 4 -> 3
            count 5 -> 0
            about 0 0 -> 1
            about 1 0 -> 1
            about 0 5 -> -1
            """);
    }

    private static void clashBelow() {
        SCRIPT.run("promise 5, a clash that turns a choice", """
            install 0 0 1 0 -> 1
            install 1 1 1 0 -> 2
            install 2 2 1 0 -> 3
            install 3 3 1 0 -> 4
            export 1 0 0 -> 1
            export 2 8 0 -> 1
            export 3 1 1 -> 1
            need 3 0 0 0 -> 1
            need 0 0 0 9 -> 1
            need 0 1 0 9 -> 2
            resolve 0 -> 3
            count 4 -> 6
            about 0 5 -> 1
            about 0 6 -> 3
            about 3 5 -> 1
            about 2 0 -> 1
            """);
        SCRIPT.run("promise 5, without USES there is none", """
            install 0 0 1 0 -> 1
            install 1 1 1 0 -> 2
            install 2 2 1 0 -> 3
            install 3 3 1 0 -> 4
            export 1 0 0 -> 1
            export 2 8 0 -> 1
            # of another package, and of its own
            export 3 1 254 -> 1
            need 3 0 0 0 -> 1
            need 0 0 0 9 -> 1
            need 0 1 0 9 -> 2
            resolve 0 -> 4
            count 4 -> 3
            about 0 5 -> 2
            """);
    }

    private static void clashWithOwnExport() {
        SCRIPT.run("promise 5, the own EXPORT is the SOURCE before the IMPORT", """
            install 0 0 1 0 -> 1
            install 1 1 1 0 -> 2
            export 0 0 0 -> 1
            export 1 8 1 -> 1
            # 0 exports package 0, so that what it imports is not its SOURCE
            need 0 0 1 9 -> 1
            resolve 0 -> ISE
            count 4 -> 1
            update 1 -> 0
            export 1 8 254 -> 1
            resolve 0 -> 2
            about 0 5 -> 1
            """);
        SCRIPT.run("promise 5, no clash with itself", """
            install 0 0 1 0 -> 1
            export 0 0 255 -> 1
            export 0 1 255 -> 2
            need 0 0 0 9 -> 1
            need 0 1 0 9 -> 2
            resolve 0 -> 1
            count 4 -> 2
            """);
    }

    private static void clashNeedsTwoSources() {
        SCRIPT.run("promise 5, no clash where one has no SOURCE", """
            install 0 0 1 0 -> 1
            install 1 1 1 0 -> 2
            install 2 2 1 0 -> 3
            export 1 0 255 -> 1
            export 2 1 255 -> 1
            need 0 0 0 9 -> 1
            need 0 1 0 9 -> 2
            resolve 0 -> 3
            """);
    }

    private static void clashWithPortsThere() {
        SCRIPT.run("promise 5, a RESOLVED one's WIRES are SOURCES", """
            install 0 0 1 0 -> 1
            install 1 1 1 0 -> 2
            install 2 2 1 0 -> 3
            install 3 3 1 0 -> 4
            export 1 0 0 -> 1
            export 2 8 0 -> 1
            export 3 1 1 -> 1
            need 3 0 0 0 -> 1
            resolve 3 -> 2
            resolve 2 -> 1
            need 0 1 0 9 -> 1
            need 0 0 0 9 -> 2
            resolve 0 -> 1
            # 2 is tried first by its VERSION and clashes
            count 4 -> 3
            about 0 6 -> 1
            """);
    }

    private static void clashWithOldPort() {
        SCRIPT.run("promise 5, an OLD PORT is another SOURCE than the EXPORT now", """
            install 0 0 1 0 -> 1
            export 0 0 0 -> 1
            install 1 1 1 0 -> 2
            export 1 1 1 -> 1
            need 1 0 0 9 -> 1
            resolve 1 -> 2
            update 0 -> 1
            export 0 0 0 -> 1
            install 2 2 1 0 -> 3
            need 2 0 0 9 -> 1
            need 2 1 0 9 -> 2
            resolve 2 -> ISE
            count 4 -> 2
            resolve 0 -> 1
            resolve 2 -> ISE
            refresh -> 1
            resolve 2 -> 2
            about 1 5 -> 0
            """);
    }

    private static void cycle() {
        SCRIPT.run("promise 5, two that need one another", """
            install 0 0 1 0 -> 1
            install 1 1 1 0 -> 2
            export 0 0 2 -> 1
            need 0 1 0 9 -> 1
            export 1 1 1 -> 1
            need 1 0 0 9 -> 1
            resolve 0 -> 2
            count 4 -> 2
            about 0 5 -> 1
            about 1 5 -> 0
            update 1 -> 1
            # 0 has a WIRE to the OLD PORT; 1 has none any more
            refresh -> 1
            """);
    }

    private static void undoing() {
        SCRIPT.run("promise 5, what failed leaves nothing behind", """
            install 0 0 1 0 -> 1
            install 1 1 1 0 -> 2
            export 1 0 0 -> 1
            need 0 0 0 9 -> 1
            need 0 1 0 9 -> 2
            resolve 0 -> ISE
            about 0 5 -> -1
            about 1 0 -> 1
            uninstall 1 -> 0
            refresh -> 0
            install 1 1 1 0 -> 2
            export 1 0 0 -> 1
            export 1 1 0 -> 2
            resolve 0 -> 2
            """);
    }

    private static void optionals() {
        SCRIPT.run("promise 5, optional IMPORTS", """
            install 0 0 1 0 -> 1
            install 1 1 1 0 -> 2
            install 2 2 1 0 -> 3
            install 3 3 1 0 -> 4
            export 1 0 0 -> 1
            export 2 8 0 -> 1
            need 0 0 0 9 optional -> 1
            # INSTALLED ones are not TAKEN IN for it
            resolve 0 -> 1
            count 4 -> 0
            about 0 5 -> -1
            update 0 -> 0
            need 0 0 0 9 optional -> 1
            resolve 1 -> 1
            resolve 0 -> 1
            count 4 -> 0
            about 0 5 -> 1
            start 2 -> 1
            need 3 0 0 9 optional -> 1
            resolve 3 -> 1
            about 3 5 -> 2
            # a WIRE that is missing does not come by itself
            install 4 4 1 0 -> 5
            need 4 5 0 9 optional -> 1
            resolve 4 -> 1
            install 5 5 1 0 -> 6
            export 5 5 0 -> 1
            resolve 5 -> 1
            about 4 5 -> -1
            """);
        SCRIPT.run("promise 5, optional IMPORTS from those that were TAKEN IN, and from itself", """
            install 0 0 1 0 -> 1
            install 1 1 1 0 -> 2
            export 0 0 0 -> 1
            export 1 1 0 -> 1
            export 1 10 0 -> 2
            need 0 0 0 9 optional -> 1
            need 0 1 0 9 -> 2
            need 0 2 0 9 optional -> 3
            need 1 0 0 9 optional -> 1
            resolve 0 -> 2
            count 4 -> 1
            about 0 5 -> 0
            about 0 6 -> 1
            about 0 7 -> 1
            about 1 5 -> 0
            """);
    }

    private static void optionalsAndClash() {
        SCRIPT.run("promise 5, an optional IMPORT passes over a clash", """
            install 0 0 1 0 -> 1
            install 1 1 1 0 -> 2
            install 2 2 1 0 -> 3
            install 3 3 1 0 -> 4
            export 1 0 0 -> 1
            export 2 8 0 -> 1
            export 3 1 1 -> 1
            need 3 0 0 0 -> 1
            resolve 3 -> 2
            resolve 2 -> 1
            need 0 1 0 9 -> 1
            need 0 0 0 9 optional -> 2
            resolve 0 -> 1
            about 0 5 -> 3
            about 0 6 -> 1
            # only the one that clashes is there: no WIRE
            install 4 4 1 0 -> 5
            need 4 1 0 9 -> 1
            need 4 0 1 9 optional -> 2
            resolve 4 -> 1
            about 4 6 -> -1
            # by two optional ones the first in order wins
            install 5 5 1 0 -> 6
            need 5 0 1 9 optional -> 1
            need 5 1 0 9 optional -> 2
            resolve 5 -> 1
            about 5 5 -> 2
            about 5 6 -> -1
            """);
    }

    private static void optionalOfAnotherClashes() {
        SCRIPT.run("promise 5, the optional IMPORT of an exporter can clash for its importer", """
            install 0 0 1 0 -> 1
            install 1 1 1 0 -> 2
            install 2 2 1 0 -> 3
            install 3 3 1 0 -> 4
            export 1 0 0 -> 1
            export 2 8 0 -> 1
            resolve 1 -> 1
            resolve 2 -> 1
            # 3 exports package 1, which uses package 0, that it imports if it can
            export 3 1 1 -> 1
            need 3 0 0 9 optional -> 1
            need 0 0 0 0 -> 1
            need 0 1 0 9 -> 2
            resolve 0 -> 2
            about 0 5 -> 1
            # 2 would come first by its VERSION
            about 3 5 -> 1
            """);
        SCRIPT.run("promise 5, of two that are TAKEN IN the lesser number is wired first", """
            install 0 0 1 0 -> 1
            install 1 1 1 0 -> 2
            install 2 2 1 0 -> 3
            install 3 3 1 0 -> 4
            export 1 0 0 -> 1
            export 2 8 0 -> 1
            resolve 1 -> 1
            resolve 2 -> 1
            export 0 1 1 -> 1
            need 0 0 0 0 optional -> 1
            need 3 1 0 9 -> 1
            need 3 0 0 9 optional -> 2
            resolve 3 -> 2
            about 0 5 -> 1
            about 3 6 -> 1
            """);
    }

    private static final String FIVE = """
            install 0 0 1 0 -> 1
            install 1 1 1 0 -> 2
            install 2 2 1 0 -> 3
            install 3 3 1 0 -> 4
            install 4 4 1 0 -> 5
            """;

    private static void threeHundredTries() {
        SCRIPT.run("promise 5, 300 tries, and solved", FIVE + """
            export 0 2 0 -> 1
            need 0 0 0 9 -> 1
            need 0 1 0 9 -> 2
            export 1 1 0 -> 1
            export 1 12 0 -> 2
            need 1 2 0 9 -> 1
            need 1 1 0 9 -> 2
            need 1 0 1 9 -> 3
            export 2 10 0 -> 1
            export 2 3 0 -> 2
            need 2 2 0 9 -> 1
            export 3 2 8 -> 1
            export 3 1 0 -> 2
            need 3 1 0 9 -> 1
            need 3 3 0 9 -> 2
            export 4 0 0 -> 1
            export 4 4 0 -> 2
            need 4 3 0 9 -> 1
            need 4 4 0 9 -> 2
            need 4 2 0 9 -> 3
            resolve 0 -> 4
            count 4 -> 300
            count 5 -> 4
            """);
        SCRIPT.run("promise 5, 300 tries, and none is left", FIVE + """
            export 0 2 0 -> 1
            need 0 2 0 9 -> 1
            need 0 1 0 9 -> 2
            need 0 0 0 9 -> 3
            export 1 2 0 -> 1
            need 1 0 0 9 -> 1
            need 1 2 0 9 -> 2
            need 1 1 0 9 -> 3
            export 2 2 0 -> 1
            export 2 9 0 -> 2
            export 2 0 1 -> 3
            need 2 0 1 9 -> 1
            export 3 1 0 -> 1
            export 3 0 0 -> 2
            need 3 1 0 9 -> 1
            need 3 0 1 9 -> 2
            export 4 1 0 -> 1
            need 4 0 1 9 -> 1
            need 4 1 0 9 -> 2
            resolve 0 -> ISE
            count 4 -> 300
            count 5 -> 0
            """);
    }

    private static final String HARD = FIVE + """
            export 0 8 0 -> 1
            need 0 2 0 9 -> 1
            need 0 1 0 9 -> 2
            export 1 8 0 -> 1
            export 1 1 4 -> 2
            need 1 1 1 9 -> 1
            export 2 2 0 -> 1
            need 2 1 0 9 -> 1
            need 2 2 0 9 -> 2
            export 3 2 0 -> 1
            export 3 9 0 -> 2
            need 3 1 0 9 -> 1
            need 3 2 1 9 -> 2
            export 4 2 0 -> 1
            export 4 1 2 -> 2
            need 4 1 0 9 -> 1
            need 4 0 1 9 -> 2
            """;

    private static void tooHard() {
        SCRIPT.run("promise 5, too hard", HARD + """
            resolve 0 -> AE
            count 4 -> 301
            count 5 -> 0
            about 0 0 -> 1
            about 1 0 -> 1
            about 0 5 -> -1
            about 0 6 -> -1
            start 0 -> AE
            about 0 1 -> 1
            about 0 0 -> 1
            count 4 -> 301
            # nothing is held back by what was too hard
            update 1 -> 0
            update 2 -> 0
            update 3 -> 0
            update 4 -> 0
            refresh -> 0
            export 4 2 0 -> 1
            export 4 1 0 -> 2
            start 0 -> 1
            count 4 -> 2
            count 5 -> 2
            """);
    }

    private static void tooHardIsPassedOver() {
        SCRIPT.run("promise 8, too hard, passed over", HARD.replace("install 0 0 1 0", "install 0 0 2 0") + """
            start 0 -> 0
            install 5 5 2 0 -> 6
            start 5 -> 0
            level 2 -> 1
            about 0 0 -> 1
            about 5 0 -> 3
            """);
    }
}
