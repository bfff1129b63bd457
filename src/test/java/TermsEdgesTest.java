/**
 * The document's terms: a run of its own for each sentence that names a boundary case, under the
 * promise through which it shows. The 300th and the 301st TRY are in LifeEdgesTest, under promise 5.
 */
public final class TermsEdgesTest {
    private static final Script SCRIPT = new Script();
    private static final String FOUR = """
        install 0 0 1 0 -> 1
        install 1 1 1 0 -> 2
        install 2 2 1 0 -> 3
        install 3 3 1 0 -> 4
        """;

    public static void main(String[] args) {
        ports();
        tasksInOrder();
        candidates();
        candidatesAndNames();
        orderOfCandidates();
        ownName();
        takenIn();
        manyTasks();
        undone();
        optionalImports();
        optionalImportsAndClash();
        sources();
        clash();
        clashAndOldPorts();
        startingActivators();
        startingThatFails();
        stopping();
        SCRIPT.end();
    }

    private static void ports() {
        SCRIPT.run("promise 5, PORTS: one for each EXPORT", FOUR + """
            export 0 0 0 -> 1
            export 0 1 0 -> 2
            export 0 2 0 -> 3
            need 1 0 0 9 -> 1
            need 1 1 0 9 -> 2
            need 1 2 0 9 -> 3
            resolve 1 -> 2
            about 1 5 -> 0
            about 1 6 -> 0
            about 1 7 -> 0
            update 0 -> 3
            """);
        SCRIPT.run("promise 5, PORTS: the EXPORT as it was when it was RESOLVED", FOUR + """
            export 0 0 0 -> 1
            need 1 0 0 9 -> 1
            resolve 1 -> 2
            update 0 -> 1
            # it exports something else now
            export 0 1 0 -> 1
            resolve 0 -> 1
            about 1 5 -> 100
            about 1 0 -> 2
            need 2 0 0 9 -> 1
            resolve 2 -> ISE
            """);
        SCRIPT.run("promise 18, PORTS: not OLD while its BUNDLE is RESOLVED or ACTIVE", FOUR + """
            export 0 0 0 -> 1
            need 1 0 0 9 -> 1
            resolve 1 -> 2
            about 1 5 -> 0
            start 0 -> 1
            about 1 5 -> 0
            stop 0 -> 0
            about 1 5 -> 0
            """);
    }

    private static void tasksInOrder() {
        SCRIPT.run("promise 5, TASKS: IMPORTS in their order: the one with CANDIDATES first", FOUR + """
            export 1 0 0 -> 1
            export 2 0 0 -> 1
            need 0 0 0 9 -> 1
            need 0 1 0 9 -> 2
            resolve 0 -> ISE
            count 4 -> 2
            """);
        SCRIPT.run("promise 5, TASKS: IMPORTS in their order: the one without CANDIDATES first", FOUR + """
            export 1 0 0 -> 1
            export 2 0 0 -> 1
            need 0 1 0 9 -> 1
            need 0 0 0 9 -> 2
            resolve 0 -> ISE
            count 4 -> 0
            """);
        SCRIPT.run("promise 5, TASKS: none: no TRY", """
            install 0 0 1 0 -> 1
            resolve 0 -> 1
            count 4 -> 0
            count 5 -> 1
            """);
        SCRIPT.run("promise 5, TASKS: optional IMPORTS are none", FOUR + """
            need 0 0 0 9 optional -> 1
            need 0 1 0 9 optional -> 2
            need 0 2 0 9 -> 3
            export 1 0 0 -> 1
            export 2 2 0 -> 1
            need 2 1 0 9 optional -> 1
            resolve 0 -> 2
            count 4 -> 1
            about 0 5 -> -1
            about 0 6 -> -1
            about 0 7 -> 2
            """);
    }

    private static void candidates() {
        SCRIPT.run("promise 5, CANDIDATES: of the PACKAGE", FOUR + """
            export 1 1 0 -> 1
            export 2 8 0 -> 1
            need 0 0 0 9 -> 1
            resolve 0 -> 2
            about 0 5 -> 2
            count 4 -> 1
            """);
        SCRIPT.run("promise 5, CANDIDATES: of BUNDLES that are not NONE", FOUR + """
            export 1 8 0 -> 1
            export 2 0 0 -> 1
            uninstall 1 -> 0
            need 0 0 0 9 -> 1
            resolve 0 -> 2
            about 0 5 -> 2
            count 4 -> 1
            """);
        SCRIPT.run("promise 5, CANDIDATES: a BUNDLE can be one for itself", """
            install 0 0 1 0 -> 1
            export 0 0 0 -> 1
            need 0 0 0 0 -> 1
            resolve 0 -> 1
            about 0 5 -> 0
            count 4 -> 1
            count 5 -> 1
            """);
    }

    private static void candidatesAndNames() {
        String two = """
            install 0 0 1 0 -> 1
            install 1 1 1 0 -> 2
            install 2 1 1 0 -> 3
            export 1 0 0 -> 1
            need 0 0 0 9 -> 1
            """;
        SCRIPT.run("promise 5, CANDIDATES: not of a NAME that another RESOLVED one has", two + """
            resolve 2 -> 1
            resolve 0 -> ISE
            count 4 -> 0
            """);
        SCRIPT.run("promise 5, CANDIDATES: not of a NAME that another ACTIVE one has", two + """
            start 2 -> 1
            resolve 0 -> ISE
            count 4 -> 0
            """);
        SCRIPT.run("promise 5, CANDIDATES: of a NAME that another INSTALLED one has", two + """
            resolve 0 -> 2
            count 4 -> 1
            about 0 5 -> 1
            """);
        SCRIPT.run("promise 5, CANDIDATES: of a NAME that it has itself, RESOLVED", two + """
            resolve 1 -> 1
            resolve 0 -> 1
            about 0 5 -> 1
            """);
        SCRIPT.run("promise 5, CANDIDATES: not of the NAME of the one that is RESOLVED", """
            install 0 0 1 0 -> 1
            install 1 0 1 0 -> 2
            install 2 1 1 0 -> 3
            export 1 8 0 -> 1
            export 2 0 0 -> 1
            need 0 0 0 9 -> 1
            resolve 0 -> 2
            about 0 5 -> 2
            count 4 -> 1
            """);
        SCRIPT.run("promise 5, CANDIDATES: not of a NAME that another one TAKEN IN has", """
            install 0 0 1 0 -> 1
            install 1 1 1 0 -> 2
            install 2 1 1 0 -> 3
            install 3 2 1 0 -> 4
            export 1 0 0 -> 1
            export 2 9 0 -> 1
            export 3 1 0 -> 1
            need 0 0 0 9 -> 1
            need 0 1 0 9 -> 2
            resolve 0 -> 3
            about 0 5 -> 1
            about 0 6 -> 3
            count 4 -> 2
            """);
    }

    private static void orderOfCandidates() {
        SCRIPT.run("promise 5, CANDIDATES: RESOLVED ones first, with VERSION 0 before 9", FOUR + """
            export 1 72 0 -> 1
            export 3 0 0 -> 1
            resolve 3 -> 1
            need 0 0 0 9 -> 1
            resolve 0 -> 1
            about 0 5 -> 3
            """);
        SCRIPT.run("promise 5, CANDIDATES: ACTIVE ones first", FOUR + """
            export 1 72 0 -> 1
            export 3 0 0 -> 1
            start 3 -> 1
            need 0 0 0 9 -> 1
            resolve 0 -> 1
            about 0 5 -> 3
            """);
        SCRIPT.run("promise 5, CANDIDATES: RESOLVED and ACTIVE are one kind", FOUR + """
            export 1 8 0 -> 1
            export 2 0 0 -> 1
            resolve 1 -> 1
            start 2 -> 1
            need 0 0 0 9 -> 1
            resolve 0 -> 1
            about 0 5 -> 1
            stop 2 -> 0
            start 1 -> 1
            need 3 0 0 9 -> 1
            resolve 3 -> 1
            about 3 5 -> 1
            """);
        SCRIPT.run("promise 5, CANDIDATES: one that is TAKEN IN comes as an INSTALLED one", FOUR + """
            export 0 0 0 -> 1
            export 1 8 0 -> 1
            need 0 0 0 9 -> 1
            resolve 0 -> 2
            about 0 5 -> 1
            """);
        SCRIPT.run("promise 5, CANDIDATES: of greater VERSIONS first, 9 before 8", FOUR + """
            export 1 64 0 -> 1
            export 3 72 0 -> 1
            need 0 0 0 9 -> 1
            resolve 0 -> 2
            about 0 5 -> 3
            """);
        SCRIPT.run("promise 5, CANDIDATES: then of lesser BUNDLES, 0 before 7", """
            install 3 3 1 0 -> 1
            install 7 1 1 0 -> 2
            install 0 2 1 0 -> 3
            export 7 8 0 -> 1
            export 0 8 0 -> 1
            need 3 0 0 9 -> 1
            resolve 3 -> 2
            about 3 5 -> 0
            resolve 7 -> 1
            install 4 4 1 0 -> 4
            need 4 0 0 9 -> 1
            resolve 4 -> 1
            about 4 5 -> 0
            """);
        SCRIPT.run("promise 5, CANDIDATES: all are tried, the last of 8 is the one", sevenThatClash() + """
            export 0 0 0 -> 1
            export 0 1 0 -> 2
            need 0 0 0 9 -> 1
            resolve 0 -> 1
            about 0 5 -> 0
            count 4 -> 8
            """);
        SCRIPT.run("promise 5, CANDIDATES: all are tried, 7 of 7 have a CLASH", sevenThatClash() + """
            export 0 1 0 -> 1
            need 0 0 0 9 -> 1
            resolve 0 -> ISE
            count 4 -> 7
            """);
    }

    /** Bundles 1 to 7 export package 0 in VERSION 1, which uses package 1, of which each has its own. */
    private static String sevenThatClash() {
        StringBuilder run = new StringBuilder("install 0 0 1 0 -> 1\n");
        for (int i = 1; i < 8; i++) {
            run.append("install " + i + " " + (1 + i % 5) + " 1 0 -> " + (i + 1) + "\n");
            run.append("export " + i + " 8 2 -> 1\n");
            run.append("export " + i + " 1 0 -> 2\n");
        }
        return run.toString();
    }

    private static void ownName() {
        String two = """
            install 0 0 1 0 -> 1
            install 1 0 1 0 -> 2
            export 0 0 0 -> 1
            need 0 0 0 9 -> 1
            """;
        SCRIPT.run("promise 5: its own NAME is that of a RESOLVED one: without any TRY", two + """
            resolve 1 -> 1
            resolve 0 -> ISE
            count 4 -> 0
            count 5 -> 0
            about 0 0 -> 1
            """);
        SCRIPT.run("promise 5: its own NAME is that of an ACTIVE one: without any TRY", two + """
            start 1 -> 1
            resolve 0 -> ISE
            count 4 -> 0
            count 5 -> 0
            """);
        SCRIPT.run("promise 5: its own NAME is that of an INSTALLED one: no matter", two + """
            resolve 0 -> 1
            count 4 -> 1
            # and that of one that is RESOLVED no more
            resolve 1 -> ISE
            update 0 -> 0
            resolve 1 -> 1
            resolve 0 -> ISE
            uninstall 1 -> 0
            resolve 0 -> 1
            """);
        SCRIPT.run("promise 5: its own NAME is taken: can't be, not TOO HARD", Searches.tooHard(1, 0) + """
            install 7 0 1 0 -> 7
            resolve 7 -> 1
            resolve 0 -> ISE
            count 4 -> 0
            uninstall 7 -> 0
            resolve 0 -> AE
            """);
    }

    private static void takenIn() {
        SCRIPT.run("promise 5, TRY: an INSTALLED one is TAKEN IN once, with its TASKS", FOUR + """
            export 1 0 0 -> 1
            export 1 1 0 -> 2
            need 1 2 0 9 -> 1
            export 2 2 0 -> 1
            need 0 0 0 9 -> 1
            need 0 1 0 9 -> 2
            resolve 0 -> 3
            # 0 and 1 of bundle 1, then its one TASK
            count 4 -> 3
            count 5 -> 3
            """);
        SCRIPT.run("promise 5, TRY: a RESOLVED one is not TAKEN IN, its IMPORTS are no TASKS", FOUR + """
            export 1 0 0 -> 1
            need 1 2 0 9 -> 1
            export 2 2 0 -> 1
            resolve 1 -> 2
            uninstall 2 -> 1
            need 0 0 0 9 -> 1
            resolve 0 -> 1
            count 4 -> 1
            count 5 -> 1
            about 1 5 -> 102
            """);
        SCRIPT.run("promise 5, TRY: its TASKS come behind all others", FOUR + """
            export 1 0 0 -> 1
            need 1 7 0 9 -> 1
            export 2 1 0 -> 1
            export 3 1 0 -> 1
            need 0 0 0 9 -> 1
            need 0 1 0 9 -> 2
            # bundle 1 can't be, which shows only behind 2 and 3
            resolve 0 -> ISE
            count 4 -> 3
            """);
        SCRIPT.run("promise 5, TRY: two that are TAKEN IN by one another", FOUR + """
            export 0 0 0 -> 1
            export 1 1 0 -> 1
            need 0 1 0 9 -> 1
            need 1 0 0 9 -> 1
            resolve 1 -> 2
            count 4 -> 2
            about 0 5 -> 1
            about 1 5 -> 0
            """);
    }

    private static void manyTasks() {
        StringBuilder run = new StringBuilder();
        for (int i = 0; i < 6; i++) {
            run.append("install " + i + " " + i + " 1 0 -> " + (i + 1) + "\n");
            run.append("export " + i + " " + i + " 0 -> 1\n");
            for (int k = 1; k <= 3; k++) {
                run.append("need " + i + " " + (i + k) % 6 + " 0 9 -> " + k + "\n");
            }
        }
        run.append("resolve 0 -> 6\ncount 4 -> 18\ncount 5 -> 6\n");
        for (int i = 0; i < 6; i++) {
            for (int k = 1; k <= 3; k++) {
                run.append("about " + i + " " + (4 + k) + " -> " + (i + k) % 6 + "\n");
            }
        }
        SCRIPT.run("promise 5, TASKS: 18 at most, for there are 6 NAMES", run.toString());
    }

    private static void undone() {
        SCRIPT.run("promise 5: undone, with what was TAKEN IN by it", FOUR + """
            export 1 8 0 -> 1
            need 1 7 0 9 -> 1
            export 2 0 0 -> 1
            need 0 0 0 9 -> 1
            resolve 0 -> 2
            count 4 -> 2
            count 5 -> 2
            about 0 5 -> 2
            about 1 0 -> 1
            about 1 5 -> -1
            """);
        SCRIPT.run("promise 5: undone, its NAME is free for the next CANDIDATE", """
            install 0 0 1 0 -> 1
            install 1 1 1 0 -> 2
            install 2 1 1 0 -> 3
            export 1 8 0 -> 1
            need 1 7 0 9 -> 1
            export 2 0 0 -> 1
            need 0 0 0 9 -> 1
            resolve 0 -> 2
            count 4 -> 2
            about 0 5 -> 2
            """);
        SCRIPT.run("promise 5: one that was TAKEN IN before stays so", FOUR + """
            export 1 0 0 -> 1
            export 1 9 0 -> 2
            export 2 1 0 -> 1
            export 3 2 2 -> 1
            need 3 1 0 0 -> 1
            need 0 0 0 9 -> 1
            need 0 1 0 9 -> 2
            need 0 2 0 9 -> 3
            # package 1 is tried from 1, then from 2: bundle 1 still gives package 0
            resolve 0 -> 4
            about 0 5 -> 1
            about 0 6 -> 2
            about 0 7 -> 3
            about 3 5 -> 2
            # 1, 1, 3 and 2 with a CLASH; then 2, 3 and 2
            count 4 -> 7
            """);
    }

    private static void optionalImports() {
        SCRIPT.run("promise 5, optional: INSTALLED ones are no CANDIDATES", FOUR + """
            export 1 0 0 -> 1
            need 0 0 0 9 optional -> 1
            resolve 0 -> 1
            about 0 5 -> -1
            about 1 0 -> 1
            """);
        SCRIPT.run("promise 5, optional: RESOLVED and ACTIVE ones, greater VERSIONS first", FOUR + """
            export 1 0 0 -> 1
            export 2 72 0 -> 1
            export 3 72 0 -> 1
            resolve 1 -> 1
            start 3 -> 1
            start 2 -> 1
            need 0 0 0 9 optional -> 1
            resolve 0 -> 1
            about 0 5 -> 2
            count 4 -> 0
            """);
        SCRIPT.run("promise 5, optional: those that have just become RESOLVED, itself too", FOUR + """
            export 0 1 0 -> 1
            need 0 1 0 9 optional -> 1
            need 0 0 0 9 -> 2
            need 0 2 0 9 optional -> 3
            export 3 0 0 -> 1
            export 3 2 0 -> 2
            need 3 1 0 9 optional -> 1
            resolve 0 -> 2
            about 0 5 -> 0
            about 0 6 -> 3
            about 0 7 -> 3
            about 3 5 -> 0
            count 4 -> 1
            """);
        SCRIPT.run("promise 5, optional: none, and the BUNDLE is RESOLVED all the same", """
            install 0 0 1 0 -> 1
            need 0 0 0 9 optional -> 1
            need 0 1 0 9 optional -> 2
            need 0 2 0 9 optional -> 3
            start 0 -> 1
            about 0 5 -> -1
            about 0 6 -> -1
            about 0 7 -> -1
            """);
        SCRIPT.run("promise 5, optional: the other IMPORTS keep what was chosen", FOUR + """
            export 1 0 0 -> 1
            resolve 1 -> 1
            export 2 72 0 -> 1
            export 2 1 0 -> 2
            need 0 0 0 9 -> 1
            need 0 1 0 9 -> 2
            # 2 is RESOLVED by now, with a greater VERSION
            resolve 0 -> 2
            about 0 5 -> 1
            about 0 6 -> 2
            """);
        SCRIPT.run("promise 5, optional: what comes later is not wired", FOUR + """
            need 0 0 0 9 optional -> 1
            resolve 0 -> 1
            export 1 0 0 -> 1
            resolve 1 -> 1
            about 0 5 -> -1
            resolve 0 -> 0
            about 0 5 -> -1
            """);
    }

    private static void optionalImportsAndClash() {
        // Bundle 3 gives package 1, which uses package 0, and has package 0 of bundle 1.
        String wired = FOUR + """
            export 1 0 0 -> 1
            export 2 8 0 -> 1
            export 3 1 1 -> 1
            need 3 0 0 0 -> 1
            resolve 3 -> 2
            resolve 2 -> 1
            """;
        SCRIPT.run("promise 5, optional: the first CANDIDATE with which there is no CLASH", wired + """
            need 0 1 0 9 -> 1
            need 0 0 0 9 optional -> 2
            resolve 0 -> 1
            about 0 5 -> 3
            about 0 6 -> 1
            """);
        SCRIPT.run("promise 5, optional: a CLASH with each: no WIRE", wired + """
            need 0 1 0 9 -> 1
            need 0 0 1 9 optional -> 2
            resolve 0 -> 1
            about 0 5 -> 3
            about 0 6 -> -1
            """);
        SCRIPT.run("promise 5, optional: each in order, the first of two that CLASH", wired + """
            need 0 0 1 9 optional -> 1
            need 0 1 0 9 optional -> 2
            resolve 0 -> 1
            about 0 5 -> 2
            about 0 6 -> -1
            """);
        SCRIPT.run("promise 5, optional: each in order, the other way round", wired + """
            need 0 1 0 9 optional -> 1
            need 0 0 1 9 optional -> 2
            resolve 0 -> 1
            about 0 5 -> 3
            about 0 6 -> -1
            """);
        SCRIPT.run("promise 5, optional: for each of them by rising numbers", """
            install 1 1 1 0 -> 1
            install 2 2 1 0 -> 2
            export 1 0 0 -> 1
            export 2 8 0 -> 1
            resolve 1 -> 1
            resolve 2 -> 1
            install 6 3 1 0 -> 3
            export 6 1 1 -> 1
            need 6 0 0 0 optional -> 1
            install 7 4 1 0 -> 4
            need 7 1 0 9 -> 1
            need 7 0 0 9 optional -> 2
            resolve 7 -> 2
            # 6 had its WIRE first, so that 7 may not have the greater VERSION
            about 6 5 -> 1
            about 7 6 -> 1
            """);
        SCRIPT.run("promise 5, optional: by rising numbers, the lesser one imports", """
            install 1 1 1 0 -> 1
            install 2 2 1 0 -> 2
            export 1 0 0 -> 1
            export 2 8 0 -> 1
            resolve 1 -> 1
            resolve 2 -> 1
            install 7 3 1 0 -> 3
            export 7 1 1 -> 1
            need 7 0 0 0 optional -> 1
            install 0 4 1 0 -> 4
            need 0 1 0 9 -> 1
            need 0 0 0 9 optional -> 2
            resolve 0 -> 2
            # 0 had its WIRE first, so that 7 may have none
            about 0 6 -> 2
            about 7 5 -> -1
            """);
    }

    private static void sources() {
        SCRIPT.run("promise 5, SOURCE: its own EXPORT, before its IMPORT", FOUR + """
            export 0 0 0 -> 1
            export 1 8 0 -> 1
            export 1 1 1 -> 2
            need 0 0 1 9 -> 1
            need 0 1 0 9 -> 2
            # package 0 is chosen from bundle 1, but bundle 0 has its own
            resolve 0 -> ISE
            count 4 -> 2
            """);
        SCRIPT.run("promise 5, SOURCE: what is chosen", FOUR + """
            export 1 8 0 -> 1
            export 1 1 1 -> 2
            need 0 0 1 9 -> 1
            need 0 1 0 9 -> 2
            resolve 0 -> 2
            """);
        SCRIPT.run("promise 5, SOURCE: none for the BUNDLE: no CLASH", FOUR + """
            export 1 8 0 -> 1
            export 1 1 1 -> 2
            need 0 1 0 9 -> 1
            resolve 0 -> 2
            """);
        SCRIPT.run("promise 5, SOURCE: none for the one it imports from: no CLASH", FOUR + """
            export 0 0 0 -> 1
            export 1 1 1 -> 1
            need 0 1 0 9 -> 1
            resolve 0 -> 2
            """);
        SCRIPT.run("promise 5, SOURCE: an optional IMPORT without a WIRE is none", FOUR + """
            export 0 0 0 -> 1
            export 1 1 1 -> 1
            need 1 0 1 9 optional -> 1
            resolve 1 -> 1
            need 0 1 0 9 -> 1
            resolve 0 -> 1
            """);
        SCRIPT.run("promise 5, SOURCE: its WIRE, of an optional IMPORT too", FOUR + """
            export 2 8 0 -> 1
            resolve 2 -> 1
            export 0 0 0 -> 1
            export 1 1 1 -> 1
            need 1 0 1 9 optional -> 1
            resolve 1 -> 1
            about 1 5 -> 2
            need 0 1 0 9 -> 1
            resolve 0 -> ISE
            count 4 -> 1
            """);
    }

    private static void clash() {
        SCRIPT.run("promise 5, CLASH: the same SOURCE is none", FOUR + """
            export 1 0 0 -> 1
            export 3 1 1 -> 1
            need 3 0 0 9 -> 1
            need 0 0 0 9 -> 1
            need 0 1 0 9 -> 2
            resolve 0 -> 3
            count 4 -> 3
            about 0 5 -> 1
            about 3 5 -> 1
            """);
        SCRIPT.run("promise 5, CLASH: with itself there is none", """
            install 0 0 1 0 -> 1
            export 0 0 255 -> 1
            export 0 1 255 -> 2
            need 0 0 0 9 -> 1
            need 0 1 0 9 -> 2
            resolve 0 -> 1
            """);
        SCRIPT.run("promise 5, CLASH: by the PACKAGE itself, if both export it", FOUR + """
            export 0 0 0 -> 1
            export 1 8 1 -> 1
            need 0 0 1 9 -> 1
            resolve 0 -> ISE
            count 4 -> 1
            """);
        SCRIPT.run("promise 5, CLASH: only what the EXPORT USES that is imported", FOUR + """
            export 0 0 0 -> 1
            export 1 8 0 -> 1
            export 1 1 0 -> 2
            export 1 2 1 -> 3
            need 0 1 0 9 -> 1
            # package 2 uses 0, but is not imported
            resolve 0 -> 2
            """);
        SCRIPT.run("promise 5, CLASH: not by an IMPORT without a WIRE", """
            install 0 0 1 0 -> 1
            install 7 1 1 0 -> 2
            export 7 0 2 -> 1
            export 7 1 0 -> 2
            resolve 7 -> 1
            install 3 3 1 0 -> 3
            export 3 2 0 -> 1
            export 0 1 0 -> 1
            need 0 0 1 9 optional -> 1
            need 0 2 0 9 -> 2
            resolve 0 -> 2
            about 0 5 -> -1
            count 4 -> 1
            """);
        SCRIPT.run("promise 5, CLASH: not through a third", FOUR + """
            export 0 2 0 -> 1
            export 1 0 2 -> 1
            need 1 1 0 9 -> 1
            export 2 1 4 -> 1
            export 2 10 0 -> 2
            need 0 0 0 9 -> 1
            # 0 and 2 have different SOURCES of package 2, but 0 imports nothing from 2
            resolve 0 -> 3
            count 4 -> 2
            """);
        SCRIPT.run("promise 5, CLASH: of another that is TAKEN IN, by a later choice", FOUR + """
            export 1 0 0 -> 1
            export 2 8 0 -> 1
            export 3 1 1 -> 1
            need 3 0 0 0 -> 1
            need 0 0 0 9 -> 1
            need 0 1 0 9 -> 2
            # 2, 3 and then 1 for bundle 3, which is a CLASH for bundle 0; then 1, 3 and 1
            resolve 0 -> 3
            count 4 -> 6
            about 0 5 -> 1
            about 2 0 -> 1
            """);
        SCRIPT.run("promise 5, CLASH: of one that is TAKEN IN and is not the first", FOUR + """
            export 2 1 1 -> 1
            export 2 0 0 -> 2
            export 1 8 0 -> 1
            export 1 2 0 -> 2
            need 1 1 0 9 -> 1
            need 0 2 0 9 -> 1
            # 1 has its own package 0, and imports 1 from 2, which uses that of 2
            resolve 0 -> ISE
            count 4 -> 2
            """);
    }

    private static void clashAndOldPorts() {
        SCRIPT.run("promise 5, CLASH: an OLD PORT and the EXPORT since are two SOURCES", FOUR + """
            export 1 0 0 -> 1
            export 2 1 1 -> 1
            need 2 0 0 9 -> 1
            resolve 2 -> 2
            update 1 -> 1
            export 1 0 0 -> 1
            need 0 0 0 9 -> 1
            need 0 1 0 9 -> 2
            resolve 0 -> ISE
            count 4 -> 2
            resolve 1 -> 1
            resolve 0 -> ISE
            count 4 -> 2
            refresh -> 1
            resolve 0 -> 2
            """);
        SCRIPT.run("promise 5, CLASH: an OLD PORT of one that is NONE is a SOURCE still", FOUR + """
            export 1 0 0 -> 1
            export 2 1 1 -> 1
            need 2 0 0 9 -> 1
            resolve 2 -> 2
            uninstall 1 -> 1
            export 0 0 0 -> 1
            need 0 1 0 9 -> 1
            resolve 0 -> ISE
            count 4 -> 1
            """);
        SCRIPT.run("promise 5, CLASH: only for those that are TAKEN IN", FOUR + """
            export 1 0 0 -> 1
            export 2 1 0 -> 1
            need 2 0 0 9 -> 1
            resolve 2 -> 2
            update 1 -> 1
            # what 1 exports now would be a CLASH for 2, which is RESOLVED already
            export 1 1 0 -> 1
            export 1 0 2 -> 2
            resolve 1 -> 1
            export 3 3 0 -> 1
            need 0 3 0 9 -> 1
            resolve 0 -> 2
            count 4 -> 1
            about 2 5 -> 101
            """);
    }

    private static void startingActivators() {
        SCRIPT.run("promise 6, STARTING: activator 0: nothing", """
            install 0 0 1 0 -> 1
            start 0 -> 1
            count 1 -> 0
            event -> 100
            event -> ISE
            """);
        for (int bundle : new int[] {0, 7}) {
            SCRIPT.run("promise 6, STARTING: activator 2: KIND 0, RANK its number", """
                install BUNDLE 0 1 2 -> 1
                start BUNDLE -> 1
                count 1 -> 1
                about BUNDLE 2 -> 1
                rank 0 -> BUNDLE.0
                rank 1 -> AE
                rank 2 -> AE
                rank 3 -> AE
                event -> 300
                event -> 10BUNDLE
                event -> ISE
                stop BUNDLE -> 1
                start BUNDLE -> 1
                unregister BUNDLE 1 -> 0
                """.replace("BUNDLE", "" + bundle));
        }
        SCRIPT.run("promise 6, STARTING: activator 3: the best of KIND 0", """
            install 0 0 1 0 -> 1
            install 1 1 1 3 -> 2
            start 0 -> 1
            register 0 1 1000.0 -> 0
            register 0 0 -1000.0 -> 1
            register 0 0 1.0 -> 2
            register 0 0 1.0 -> 3
            start 1 -> 1
            giveBack 1 0 -> UOE
            giveBack 1 1 -> UOE
            giveBack 1 3 -> UOE
            giveBack 1 2 -> 0
            giveBack 1 2 -> UOE
            """);
        SCRIPT.run("promise 6, STARTING: activator 3: there is none of KIND 0", """
            install 0 0 1 0 -> 1
            install 1 1 1 3 -> 2
            start 0 -> 1
            register 0 1 0.0 -> 0
            register 0 2 0.0 -> 1
            register 0 3 0.0 -> 2
            start 1 -> UOE
            about 1 0 -> 2
            unregister 0 0 -> 0
            unregister 0 1 -> 0
            unregister 0 2 -> 0
            start 1 -> UOE
            register 0 0 -1000.0 -> 3
            start 1 -> 1
            """);
        SCRIPT.run("promise 6, STARTING: activator 4: once since it was installed or updated", """
            install 0 0 1 4 -> 1
            start 0 -> 1
            stop 0 -> 0
            start 0 -> UOE
            start 0 -> UOE
            about 0 0 -> 2
            update 0 -> 0
            start 0 -> 1
            stop 0 -> 0
            start 0 -> UOE
            uninstall 0 -> 0
            install 0 0 1 4 -> 1
            start 0 -> 1
            level 2 -> 0
            level 1 -> 0
            about 0 0 -> 3
            """);
        SCRIPT.run("promise 6, STARTING: activator 4: what was not started does not count", """
            install 0 0 2 4 -> 1
            need 0 0 0 9 -> 1
            start 0 -> 0
            level 2 -> 0
            start 0 -> ISE
            install 1 1 1 0 -> 2
            export 1 0 0 -> 1
            resolve 0 -> 2
            start 0 -> 1
            """);
    }

    private static void startingThatFails() {
        SCRIPT.run("promise 6, STARTING: activator 1 throws, each time: it stays RESOLVED", """
            install 0 0 1 1 -> 1
            start 0 -> UOE
            about 0 0 -> 2
            start 0 -> UOE
            about 0 0 -> 2
            count 1 -> 0
            event -> ISE
            """);
        SCRIPT.run("promise 6, STARTING: can't be RESOLVED before its ACTIVATOR throws", """
            install 0 0 1 1 -> 1
            need 0 0 0 9 -> 1
            start 0 -> ISE
            about 0 0 -> 1
            """);
        SCRIPT.run("promise 6, STARTING: TOO HARD before its ACTIVATOR throws", Searches.tooHard(1, 1) + """
            start 0 -> AE
            about 0 0 -> 1
            """);
        SCRIPT.run("promise 6, STARTING: 300 TRIES are not TOO HARD", Searches.unsolvableAfter300(1, 1) + """
            start 0 -> ISE
            about 0 0 -> 1
            """);
        SCRIPT.run("promise 6, STARTING: solved by the 300th TRY", Searches.solvedBy300() + """
            start 0 -> 1
            count 4 -> 300
            """);
        SCRIPT.run("promise 6, STARTING: not by the 301st", Searches.solvedBy301() + """
            start 0 -> AE
            count 4 -> 301
            about 0 1 -> 1
            """);
    }

    private static void stopping() {
        SCRIPT.run("promise 7, STOPPING: its SERVICES by rising numbers, then the BUNDLE", """
            install 0 0 1 2 -> 1
            install 7 1 1 2 -> 2
            start 0 -> 1
            start 7 -> 1
            register 0 3 1.0 -> 2
            register 7 1 1.0 -> 3
            register 0 0 -5.0 -> 4
            unregister 0 2 -> 0
            register 0 1 1000.0 -> 5
            event -> 300
            event -> 100
            event -> 301
            event -> 107
            event -> 302
            event -> 303
            event -> 304
            event -> 402
            event -> 305
            stop 0 -> 3
            event -> 400
            event -> 404
            event -> 405
            event -> 200
            event -> ISE
            # those of the other stay
            about 7 2 -> 2
            unregister 7 1 -> 0
            unregister 7 3 -> 0
            """);
        SCRIPT.run("promise 7, STOPPING: what it GOT is given back, however often", """
            install 0 0 1 0 -> 1
            install 1 1 1 0 -> 2
            start 0 -> 1
            start 1 -> 1
            register 0 0 0.0 -> 0
            register 0 1 0.0 -> 1
            get 1 0 -> 0
            get 1 0 -> 0
            get 1 1 -> 1
            get 0 0 -> 0
            stop 1 -> 0
            # what another GOT stays
            unregister 0 0 -> 1
            unregister 0 1 -> 0
            """);
        SCRIPT.run("promise 7, STOPPING: the WIRES stay", """
            install 0 0 1 0 -> 1
            export 0 0 0 -> 1
            install 1 1 1 0 -> 2
            need 1 0 0 9 -> 1
            start 1 -> 1
            stop 1 -> 0
            about 1 5 -> 0
            about 1 0 -> 2
            """);
    }
}
