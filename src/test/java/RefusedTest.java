/**
 * What is thrown where several things are wrong at once, and that a call that throws changes
 * nothing but what the document says. Numbers out of range are in RangesTest.
 */
public final class RefusedTest {
    private static final Script SCRIPT = new Script();
    private static final Twins TWINS = new Twins(SCRIPT);

    public static void main(String[] args) {
        orderForTheManifest();
        orderForLives();
        orderForServices();
        installChangesNothing();
        exportAndNeedChangeNothing();
        resolveChangesOnlyTheTries();
        startChangesOnlyWhatIsSaid();
        startByAnActivatorChangesOnlyWhatIsSaid();
        bundlesThatAreNone();
        registerChangesNothing();
        otherServiceCallsChangeNothing();
        readingChangesNothing();
        SCRIPT.end();
    }

    private static void orderForTheManifest() {
        SCRIPT.run("promise 2: out of range, and not NONE", """
            install 0 0 1 0 -> 1
            install 0 6 1 0 -> IAE
            install 0 -1 1 0 -> IAE
            install 0 0 0 0 -> IAE
            install 0 0 6 0 -> IAE
            install 0 0 1 -1 -> IAE
            install 0 0 1 5 -> IAE
            install 0 0 1 0 -> ISE
            """);
        SCRIPT.run("promise 3: out of range, NONE, not INSTALLED, no room", """
            export 0 80 0 -> IAE
            export 0 0 256 -> IAE
            export 0 0 0 -> NSE
            install 0 0 1 0 -> 1
            export 0 0 0 -> 1
            export 0 1 0 -> 2
            export 0 2 0 -> 3
            # 3 are there, and one of the PACKAGE
            export 0 2 0 -> UOE
            export 0 80 0 -> IAE
            export 0 0 256 -> IAE
            resolve 0 -> 1
            export 0 2 0 -> ISE
            export 0 3 0 -> ISE
            export 0 80 0 -> IAE
            export 0 2 -1 -> IAE
            start 0 -> 1
            export 0 2 0 -> ISE
            export 0 3 0 -> ISE
            export 0 -1 0 -> IAE
            """);
        SCRIPT.run("promise 4: out of range, NONE, not INSTALLED, no room", """
            need 0 8 0 9 -> IAE
            need 0 0 10 9 -> IAE
            need 0 0 0 10 -> IAE
            need 0 0 0 9 -> NSE
            install 0 0 1 0 -> 1
            need 0 0 0 9 optional -> 1
            need 0 1 0 9 optional -> 2
            need 0 2 0 9 optional -> 3
            need 0 2 0 9 -> UOE
            need 0 8 0 9 -> IAE
            need 0 2 -1 9 -> IAE
            need 0 2 0 -1 -> IAE
            resolve 0 -> 1
            need 0 2 0 9 -> ISE
            need 0 3 0 9 -> ISE
            need 0 8 0 9 -> IAE
            need 0 2 0 10 -> IAE
            start 0 -> 1
            need 0 2 0 9 -> ISE
            need 0 3 0 9 -> ISE
            need 0 2 10 9 -> IAE
            """);
    }

    private static void orderForLives() {
        SCRIPT.run("promise 5: NONE, though nothing could be RESOLVED", """
            resolve 0 -> NSE
            resolve 8 -> IAE
            """);
        SCRIPT.run("promise 6: above the LEVEL comes before all that STARTING throws", """
            install 0 0 2 1 -> 1
            need 0 0 0 9 -> 1
            start 0 -> 0
            level 2 -> 0
            start 0 -> ISE
            """);
        SCRIPT.run("promise 6: can't be RESOLVED comes before the ACTIVATOR", """
            install 0 0 1 3 -> 1
            need 0 0 0 9 -> 1
            start 0 -> ISE
            export 0 0 0 -> 1
            start 0 -> UOE
            """);
        SCRIPT.run("promise 6: a NAME that is taken comes before TOO HARD", Searches.tooHard(1, 1) + """
            install 7 0 1 0 -> 7
            resolve 7 -> 1
            start 0 -> ISE
            count 4 -> 0
            uninstall 7 -> 0
            start 0 -> AE
            """);
    }

    private static void orderForServices() {
        SCRIPT.run("promise 12: out of range, NONE, not ACTIVE", """
            register 0 4 0.0 -> IAE
            register 0 0 1000.5 -> IAE
            register 0 0 NaN -> IAE
            register 0 0 0.0 -> NSE
            install 0 0 1 0 -> 1
            register 0 4 0.0 -> IAE
            register 0 0 1000.5 -> IAE
            register 0 0 0.0 -> ISE
            """);
        SCRIPT.run("promise 12: 20 are there, and something else", twentyServices() + """
            register 0 0 0.0 -> UOE
            register 0 4 0.0 -> IAE
            register 0 0 1000.5 -> IAE
            register 8 0 0.0 -> IAE
            register 7 0 0.0 -> NSE
            install 1 1 1 0 -> 2
            register 1 0 0.0 -> ISE
            resolve 1 -> 1
            register 1 0 0.0 -> ISE
            """);
        SCRIPT.run("promise 13: out of range, NONE, not ACTIVE, none of the KIND", """
            get 0 4 -> IAE
            get 0 0 -> NSE
            install 0 0 1 0 -> 1
            get 0 4 -> IAE
            get 0 0 -> ISE
            resolve 0 -> 1
            get 0 0 -> ISE
            start 0 -> 1
            get 0 0 -> UOE
            get 0 4 -> IAE
            """);
        SCRIPT.run("promise 14 and 15: out of range, NONE, not there", """
            giveBack 0 -1 -> IAE
            giveBack 0 0 -> NSE
            unregister 0 -1 -> IAE
            unregister 0 0 -> NSE
            install 0 0 1 0 -> 1
            giveBack 0 -1 -> IAE
            giveBack 0 0 -> UOE
            unregister 0 -1 -> IAE
            unregister 0 0 -> UOE
            """);
        SCRIPT.run("promise 14 and 15: the SERVICE is there, the BUNDLE is NONE", """
            install 0 0 1 2 -> 1
            start 0 -> 1
            get 0 0 -> 0
            giveBack 1 0 -> NSE
            unregister 1 0 -> NSE
            giveBack 0 0 -> 0
            unregister 0 0 -> 0
            """);
    }

    private static String twentyServices() {
        StringBuilder run = new StringBuilder("install 0 0 1 0 -> 1\nstart 0 -> 1\n");
        for (int i = 0; i < 20; i++) {
            run.append("register 0 " + i % 4 + " " + i + ".0 -> " + i + "\n");
        }
        return run.toString();
    }

    // Bundles in all states, WIRES, also to an OLD PORT, SERVICES that were GOT, and EVENTS.
    private static final String BUSY = """
        install 0 0 1 2 -> 1
        export 0 0 0 -> 1
        export 0 9 1 -> 2
        install 1 1 2 0 -> 2
        need 1 0 0 9 -> 1
        need 1 1 0 9 optional -> 2
        install 2 2 1 0 -> 3
        export 2 2 0 -> 1
        install 3 3 1 1 -> 4
        need 3 2 0 9 -> 1
        install 4 4 3 4 -> 5
        need 4 7 0 9 optional -> 1
        export 4 16 255 -> 1
        install 5 0 1 3 -> 6
        need 5 2 0 9 -> 1
        level 2 -> 0
        start 0 -> 1
        start 1 -> 1
        start 3 -> UOE
        update 2 -> 1
        start 4 -> 0
        event -> 300
        register 1 3 2.5 -> 1
        register 0 0 3.0 -> 2
        get 1 0 -> 2
        get 1 0 -> 2
        get 0 3 -> 1
        """;

    private static void installChangesNothing() {
        TWINS.unchanged("promise 2: it is not NONE", BUSY, """
            install 0 5 5 1 -> ISE
            install 1 5 1 1 -> ISE
            install 2 5 5 1 -> ISE
            install 3 5 5 0 -> ISE
            install 4 5 1 1 -> ISE
            install 5 5 1 0 -> ISE
            """);
    }

    private static void exportAndNeedChangeNothing() {
        TWINS.unchanged("promise 3: it is not INSTALLED", BUSY, """
            export 0 5 0 -> ISE
            export 0 0 0 -> ISE
            export 1 5 0 -> ISE
            export 3 5 0 -> ISE
            """);
        TWINS.unchanged("promise 3: one of the PACKAGE is there", BUSY, """
            export 4 0 0 -> UOE
            export 4 16 255 -> UOE
            export 4 72 0 -> UOE
            """);
        TWINS.unchanged("promise 4: it is not INSTALLED", BUSY, """
            need 0 5 0 9 -> ISE
            need 1 0 0 9 -> ISE
            need 1 5 0 9 optional -> ISE
            need 3 5 0 9 -> ISE
            """);
        TWINS.unchanged("promise 4: one of the PACKAGE is there", BUSY, """
            need 4 7 0 9 -> UOE
            need 4 7 0 0 optional -> UOE
            need 5 2 0 9 optional -> UOE
            """);
        String full = """
            install 0 0 1 0 -> 1
            export 0 0 1 -> 1
            export 0 1 2 -> 2
            export 0 2 4 -> 3
            need 0 0 0 9 -> 1
            need 0 1 0 9 -> 2
            need 0 2 0 9 optional -> 3
            """;
        TWINS.unchanged("promises 3 and 4: 3 are there", full, """
            export 0 3 0 -> UOE
            export 0 10 0 -> UOE
            need 0 3 0 9 -> UOE
            need 0 2 1 9 -> UOE
            """);
    }

    // What was refused has changed the TRIES: the RESOLVING of bundle 7 makes them alike.
    private static final String ONE_MORE = "install 7 5 1 0 -> COUNT\nresolve 7 -> 1\n";

    private static String oneMore(int count) {
        return ONE_MORE.replace("COUNT", "" + count);
    }

    private static void resolveChangesOnlyTheTries() {
        TWINS.alike("promise 5: a NAME that is taken", BUSY, "resolve 5 -> ISE", "", oneMore(7));
        TWINS.alike("promise 5: no CANDIDATE", """
            install 0 0 1 0 -> 1
            install 1 1 1 0 -> 2
            export 1 0 0 -> 1
            need 1 2 0 9 -> 1
            need 0 0 0 9 -> 1
            need 0 1 0 9 -> 2
            """, "resolve 0 -> ISE\nresolve 1 -> ISE", "", oneMore(3));
        TWINS.alike("promise 5: a CLASH", """
            install 0 0 1 0 -> 1
            install 1 1 1 0 -> 2
            export 0 0 0 -> 1
            export 1 0 0 -> 1
            export 1 1 1 -> 2
            need 0 1 0 9 -> 1
            """, "resolve 0 -> ISE", "", oneMore(3));
        TWINS.alike("promise 5: TOO HARD", Searches.tooHard(1, 0), "resolve 0 -> AE", "",
                "uninstall 5 -> 0\n" + oneMore(6));
        TWINS.alike("promise 5: none is left after 300", Searches.unsolvableAfter300(1, 0), "resolve 0 -> ISE", "",
                "uninstall 5 -> 0\n" + oneMore(6));
        TWINS.alike("promise 5: the 301st would solve it", Searches.solvedBy301(), "resolve 0 -> AE", "",
                "uninstall 5 -> 0\n" + oneMore(7));
    }

    private static void startChangesOnlyWhatIsSaid() {
        // After start both are stopped, so that WANTED is alike again.
        TWINS.alike("promise 6: can't be RESOLVED", """
            install 0 0 1 2 -> 1
            install 1 1 1 0 -> 2
            export 1 0 0 -> 1
            need 0 0 0 9 -> 1
            need 0 1 0 9 -> 2
            """, "start 0 -> ISE\nabout 0 1 -> 1", "resolve 0 -> ISE", "stop 0 -> 0");
        TWINS.alike("promise 6: TOO HARD", Searches.tooHard(1, 2),
                "start 0 -> AE\nabout 0 1 -> 1", "resolve 0 -> AE", "stop 0 -> 0");
        TWINS.alike("promise 6: above the LEVEL", """
            install 0 0 2 2 -> 1
            export 0 0 0 -> 1
            need 0 0 0 9 -> 1
            """, "start 0 -> 0\nabout 0 1 -> 1", "", "stop 0 -> 0");
        TWINS.alike("promise 6: it is ACTIVE", BUSY, "start 0 -> 1\nstart 1 -> 1", "", "");
    }

    private static void startByAnActivatorChangesOnlyWhatIsSaid() {
        String two = """
            install 0 0 1 ACTIVATOR -> 1
            install 1 1 1 0 -> 2
            export 1 0 0 -> 1
            need 0 0 0 9 -> 1
            """;
        for (int activator : new int[] {1, 3}) {
            TWINS.alike("promise 6: activator " + activator + " throws", two.replace("ACTIVATOR", "" + activator),
                    "start 0 -> UOE\nabout 0 1 -> 1", "resolve 0 -> 2", "stop 0 -> 0");
        }
        TWINS.alike("promise 6: activator 2 throws", twentyServices() + """
            install 1 1 1 2 -> 2
            """, "start 1 -> UOE\nabout 1 1 -> 1", "resolve 1 -> 1", "stop 1 -> 0");
        TWINS.alike("promise 6: activator 4 throws", """
            install 0 0 1 4 -> 1
            start 0 -> 1
            stop 0 -> 0
            """, "start 0 -> UOE\nabout 0 1 -> 1\nstart 0 -> UOE", "", "stop 0 -> 0");
    }

    private static void bundlesThatAreNone() {
        TWINS.unchanged("promises 3 to 7, 9, 10, 12 to 15: the BUNDLE is NONE", BUSY, """
            export 6 0 0 -> NSE
            need 6 0 0 9 -> NSE
            resolve 6 -> NSE
            start 6 -> NSE
            stop 6 -> NSE
            uninstall 6 -> NSE
            update 6 -> NSE
            register 6 0 0.0 -> NSE
            get 6 0 -> NSE
            giveBack 6 2 -> NSE
            unregister 6 2 -> NSE
            """);
        TWINS.unchanged("promises 3 to 7, 9, 10, 12 to 15: it is NONE again", BUSY + "uninstall 0 -> 2\n", """
            export 0 0 0 -> NSE
            need 0 0 0 9 -> NSE
            resolve 0 -> NSE
            start 0 -> NSE
            stop 0 -> NSE
            uninstall 0 -> NSE
            update 0 -> NSE
            register 0 0 0.0 -> NSE
            get 0 0 -> NSE
            giveBack 0 0 -> NSE
            unregister 0 0 -> NSE
            """);
    }

    private static void registerChangesNothing() {
        TWINS.unchanged("promise 12: it is not ACTIVE", BUSY, """
            register 2 0 1000.0 -> ISE
            register 3 0 1000.0 -> ISE
            register 4 0 1000.0 -> ISE
            """);
        TWINS.unchanged("promise 12: 20 are there", twentyServices(), """
            register 0 0 1000.0 -> UOE
            register 0 3 -1000.0 -> UOE
            """);
    }

    private static void otherServiceCallsChangeNothing() {
        TWINS.unchanged("promise 13: it is not ACTIVE, or there is none", BUSY, """
            get 2 0 -> ISE
            get 3 0 -> ISE
            get 4 3 -> ISE
            get 0 1 -> UOE
            get 1 2 -> UOE
            """);
        TWINS.unchanged("promise 14: it is not there, or the BUNDLE did not GET it", BUSY, """
            giveBack 0 0 -> UOE
            giveBack 0 2 -> UOE
            giveBack 1 0 -> UOE
            giveBack 1 1 -> UOE
            giveBack 1 3 -> UOE
            giveBack 1 2147483647 -> UOE
            giveBack 2 2 -> UOE
            giveBack 3 2 -> UOE
            """);
        TWINS.unchanged("promise 15: it is not there, or not of this BUNDLE", BUSY, """
            unregister 0 1 -> UOE
            unregister 1 0 -> UOE
            unregister 1 2 -> UOE
            unregister 0 3 -> UOE
            unregister 0 2147483647 -> UOE
            unregister 2 0 -> UOE
            unregister 3 0 -> UOE
            """);
    }

    private static void readingChangesNothing() {
        TWINS.unchanged("promise 16: none of the KIND", BUSY, """
            rank 1 -> AE
            rank 2 -> AE
            """);
        TWINS.unchanged("promise 17: none", """
            install 0 0 1 0 -> 1
            start 0 -> 1
            event -> 100
            """, """
            event -> ISE
            """);
        TWINS.alike("promises 16, 18, 19: what is asked for stays", BUSY, """
            rank 0 -> 1.5
            rank 3 -> 2.5
            about 0 0 -> 3
            about 3 5 -> 102
            about 1 6 -> 0
            count 2 -> 4
            count 4 -> 1
            """, "", "");
    }
}
