/** Promises 1 to 7: a run of its own for each sentence that names a boundary case. */
public final class LifeEdgesTest {
    private static final Script SCRIPT = new Script();

    public static void main(String[] args) {
        newObject();
        installTakesTheLastOfEachNumber();
        installRefusesWhatIsThere();
        installBringsAnEmptyOne();
        installAnswersHowManyAreThere();
        exportReadsPackageAndVersion();
        exportReadsUses();
        exportRefusesWhatIsNotInstalled();
        exportRefusesAFourthAndAPackageTwice();
        needReadsLowAndHigh();
        needTakesLowAboveHigh();
        needRefusesWhatIsNotInstalled();
        needRefusesAFourthAndAPackageTwice();
        resolveOfOneThatIsResolved();
        resolveThatCannotBe();
        resolveThatIsTooHard();
        resolveAnswersHowMany();
        startMakesWanted();
        startKeepsWhatWasResolved();
        startOfAnActiveOne();
        startAboveTheLevel();
        stopMakesNotWanted();
        stopAnswersHowManyServices();
        SCRIPT.end();
    }

    private static void newObject() {
        for (int bundle = 0; bundle < 8; bundle++) {
            SCRIPT.run("promise 1: nothing is installed", """
                export ? 0 0 -> NSE
                need ? 0 0 9 -> NSE
                resolve ? -> NSE
                start ? -> NSE
                stop ? -> NSE
                uninstall ? -> NSE
                update ? -> NSE
                register ? 0 0.0 -> NSE
                get ? 0 -> NSE
                giveBack ? 0 -> NSE
                unregister ? 0 -> NSE
                about ? 0 -> 0
                about ? 1 -> 0
                about ? 2 -> 0
                about ? 3 -> 0
                about ? 4 -> 0
                about ? 5 -> -1
                about ? 6 -> -1
                about ? 7 -> -1
                install ? 0 1 0 -> 1
                """.replace("?", "" + bundle));
        }
        SCRIPT.run("promise 1: there are no EVENTS", """
            event -> ISE
            count 2 -> 0
            count 3 -> 0
            """);
        SCRIPT.run("promise 1: the FRAMEWORK has a LEVEL, 1 at first", """
            count 0 -> 1
            install 0 0 1 0 -> 1
            install 1 1 2 0 -> 2
            start 0 -> 1
            start 1 -> 0
            level 1 -> 0
            """);
        SCRIPT.run("promise 1: no SERVICES, the first has number 0", """
            count 1 -> 0
            rank 0 -> AE
            rank 3 -> AE
            install 0 0 1 0 -> 1
            start 0 -> 1
            get 0 0 -> UOE
            register 0 0 0.0 -> 0
            """);
    }

    private static void installTakesTheLastOfEachNumber() {
        SCRIPT.run("promise 2: bundle 0 .. 7", """
            install 0 0 1 0 -> 1
            install 7 1 1 0 -> 2
            install -1 2 1 0 -> IAE
            install 8 2 1 0 -> IAE
            about 0 0 -> 1
            about 7 0 -> 1
            """);
        SCRIPT.run("promise 2: name 0 .. 5", """
            install 0 0 1 0 -> 1
            install 1 5 1 0 -> 2
            install 2 -1 1 0 -> IAE
            install 2 6 1 0 -> IAE
            about 2 0 -> 0
            # the NAMES are 0 and 5: each stands in the way of one of its own only
            resolve 0 -> 1
            resolve 1 -> 1
            install 2 0 1 0 -> 3
            install 3 5 1 0 -> 4
            install 4 1 1 0 -> 5
            install 5 4 1 0 -> 6
            resolve 2 -> ISE
            resolve 3 -> ISE
            resolve 4 -> 1
            resolve 5 -> 1
            """);
        SCRIPT.run("promise 2: level 1 .. 5", """
            install 0 0 1 0 -> 1
            install 1 1 5 0 -> 2
            install 2 2 0 0 -> IAE
            install 2 2 6 0 -> IAE
            about 2 0 -> 0
            start 0 -> 1
            start 1 -> 0
            level 4 -> 0
            start 1 -> 0
            level 5 -> 1
            about 1 0 -> 3
            """);
        SCRIPT.run("promise 2: activator 0 .. 4", """
            install 0 0 1 0 -> 1
            install 1 1 1 4 -> 2
            install 2 2 1 -1 -> IAE
            install 2 2 1 5 -> IAE
            about 2 0 -> 0
            start 0 -> 1
            stop 0 -> 0
            start 0 -> 1
            start 1 -> 1
            stop 1 -> 0
            start 1 -> UOE
            """);
    }

    private static void installRefusesWhatIsThere() {
        SCRIPT.run("promise 2: it is not NONE: INSTALLED, RESOLVED, ACTIVE", """
            install 0 0 1 0 -> 1
            install 0 0 1 0 -> ISE
            install 0 1 2 1 -> ISE
            about 0 0 -> 1
            resolve 0 -> 1
            install 0 0 1 0 -> ISE
            about 0 0 -> 2
            start 0 -> 1
            install 0 0 1 0 -> ISE
            about 0 0 -> 3
            # LEVEL and ACTIVATOR are those of the call that was taken
            stop 0 -> 0
            start 0 -> 1
            uninstall 0 -> 0
            install 0 0 1 0 -> 1
            """);
    }

    private static void installBringsAnEmptyOne() {
        SCRIPT.run("promise 2: INSTALLED without EXPORTS and IMPORTS, not WANTED", """
            install 0 0 1 2 -> 1
            export 0 0 0 -> 1
            export 0 1 0 -> 2
            export 0 2 0 -> 3
            need 0 0 0 9 -> 1
            need 0 1 0 9 -> 2
            need 0 2 0 9 -> 3
            start 0 -> 1
            about 0 1 -> 1
            about 0 7 -> 0
            uninstall 0 -> 0
            install 0 0 1 0 -> 1
            about 0 0 -> 1
            about 0 1 -> 0
            about 0 2 -> 0
            about 0 3 -> 0
            about 0 4 -> 0
            about 0 5 -> -1
            about 0 6 -> -1
            about 0 7 -> -1
            export 0 2 0 -> 1
            export 0 1 0 -> 2
            export 0 0 0 -> 3
            need 0 2 0 9 -> 1
            need 0 1 0 9 -> 2
            need 0 0 0 9 -> 3
            """);
        SCRIPT.run("promise 2: what was exported before is gone for others too", """
            install 0 0 1 0 -> 1
            export 0 0 0 -> 1
            uninstall 0 -> 0
            install 0 0 1 0 -> 1
            install 1 1 1 0 -> 2
            need 1 0 0 9 -> 1
            resolve 1 -> ISE
            count 4 -> 0
            """);
    }

    private static void installAnswersHowManyAreThere() {
        SCRIPT.run("promise 2: answers how many are not NONE, 1 to 8", """
            install 3 0 1 0 -> 1
            install 7 0 1 0 -> 2
            install 0 0 1 0 -> 3
            install 1 1 1 0 -> 4
            # RESOLVED and ACTIVE ones count
            resolve 0 -> 1
            start 1 -> 1
            install 2 0 1 0 -> 5
            install 4 0 1 0 -> 6
            install 5 0 1 0 -> 7
            install 6 0 1 0 -> 8
            uninstall 6 -> 0
            uninstall 1 -> 0
            install 6 0 1 0 -> 7
            install 1 0 1 0 -> 8
            """);
    }

    private static void exportReadsPackageAndVersion() {
        // what, its PACKAGE, its VERSION
        int[][] rows = {{0, 0, 0}, {7, 7, 0}, {8, 0, 1}, {15, 7, 1}, {71, 7, 8}, {72, 0, 9}, {79, 7, 9}};
        for (int[] row : rows) {
            int other = (row[1] + 1) % 8;
            SCRIPT.run("promise 3: what is PACKAGE plus 8 times VERSION", """
                install 0 0 1 0 -> 1
                export 0 WHAT 0 -> 1
                install 1 1 1 0 -> 2
                need 1 PACKAGE VERSION VERSION -> 1
                install 2 2 1 0 -> 3
                need 2 OTHER 0 9 -> 1
                resolve 2 -> ISE
                resolve 1 -> 2
                about 1 5 -> 0
                """.replace("WHAT", "" + row[0]).replace("PACKAGE", "" + row[1])
                    .replace("VERSION", "" + row[2]).replace("OTHER", "" + other));
        }
        SCRIPT.run("promise 3: what 0 .. 79", """
            install 0 0 1 0 -> 1
            export 0 -1 0 -> IAE
            export 0 80 0 -> IAE
            about 0 3 -> 0
            export 0 0 0 -> 1
            export 0 79 0 -> 2
            """);
    }

    private static void exportReadsUses() {
        SCRIPT.run("promise 3: uses 0 .. 255", """
            install 0 0 1 0 -> 1
            export 0 0 -1 -> IAE
            export 0 0 256 -> IAE
            about 0 3 -> 0
            export 0 0 0 -> 1
            export 0 1 255 -> 2
            """);
        for (int used = 0; used < 8; used++) {
            int given = (used + 1) % 8;
            usesShow(given, used, 1 << used, "ISE");
            usesShow(given, used, 255 - (1 << used), "3");
            usesShow(given, used, 255, "ISE");
            usesShow(given, used, 0, "3");
        }
    }

    /** Bundle 0 has one SOURCE of PACKAGE used, the maker of PACKAGE given has another. */
    private static void usesShow(int given, int used, int uses, String answer) {
        SCRIPT.run("promise 3: uses, package " + used + " in " + uses, """
            install 0 0 1 0 -> 1
            install 1 1 1 0 -> 2
            install 2 2 1 0 -> 3
            export 1 GIVEN USES -> 1
            export 1 USED 0 -> 2
            export 2 NEWER 0 -> 1
            need 0 USED 1 1 -> 1
            need 0 GIVEN 0 9 -> 2
            resolve 0 -> ANSWER
            """.replace("GIVEN", "" + given).replace("USES", "" + uses).replace("USED", "" + used)
                .replace("NEWER", "" + (used + 8)).replace("ANSWER", answer));
    }

    private static void exportRefusesWhatIsNotInstalled() {
        SCRIPT.run("promise 3: it is not INSTALLED: RESOLVED, ACTIVE", """
            install 0 0 1 0 -> 1
            export 0 0 0 -> 1
            resolve 0 -> 1
            export 0 1 0 -> ISE
            about 0 3 -> 1
            start 0 -> 1
            export 0 1 0 -> ISE
            stop 0 -> 0
            export 0 1 0 -> ISE
            about 0 3 -> 1
            # INSTALLED again
            update 0 -> 0
            export 0 1 0 -> 1
            """);
        SCRIPT.run("promise 3: INSTALLED again by refresh, with what it had", """
            install 0 0 1 0 -> 1
            export 0 0 0 -> 1
            install 1 1 1 0 -> 2
            need 1 0 0 9 -> 1
            export 1 1 0 -> 1
            resolve 1 -> 2
            export 1 2 0 -> ISE
            need 1 2 0 9 -> ISE
            uninstall 0 -> 1
            refresh -> 1
            about 1 3 -> 1
            about 1 4 -> 1
            export 1 2 0 -> 2
            export 1 3 0 -> 3
            export 1 4 0 -> UOE
            need 1 2 0 9 -> 2
            need 1 3 0 9 -> 3
            need 1 4 0 9 -> UOE
            """);
    }

    private static void exportRefusesAFourthAndAPackageTwice() {
        SCRIPT.run("promise 3: 3 are there", """
            install 0 0 1 0 -> 1
            export 0 0 0 -> 1
            export 0 1 0 -> 2
            export 0 2 0 -> 3
            export 0 3 0 -> UOE
            export 0 7 0 -> UOE
            about 0 3 -> 3
            # IMPORTS are counted apart
            need 0 0 0 9 -> 1
            # and those of another BUNDLE too
            install 1 1 1 0 -> 2
            export 1 3 0 -> 1
            update 0 -> 0
            about 0 3 -> 0
            export 0 3 0 -> 1
            """);
        SCRIPT.run("promise 3: one of the PACKAGE is there", """
            install 0 0 1 0 -> 1
            export 0 7 0 -> 1
            export 0 7 0 -> UOE
            export 0 79 0 -> UOE
            export 0 15 255 -> UOE
            about 0 3 -> 1
            export 0 0 0 -> 2
            export 0 72 0 -> UOE
            export 0 7 0 -> UOE
            about 0 3 -> 2
            # another BUNDLE may export it
            install 1 1 1 0 -> 2
            export 1 7 0 -> 1
            # the VERSION is that of the call that was taken
            install 2 2 1 0 -> 3
            need 2 7 1 9 -> 1
            resolve 2 -> ISE
            """);
    }

    private static void needReadsLowAndHigh() {
        // LOW, HIGH, a VERSION, and whether it lies between them
        Object[][] rows = {
            {0, 0, 0, true}, {0, 0, 1, false}, {9, 9, 9, true}, {9, 9, 8, false},
            {3, 6, 2, false}, {3, 6, 3, true}, {3, 6, 6, true}, {3, 6, 7, false},
            {0, 9, 0, true}, {0, 9, 9, true}, {1, 9, 0, false}, {0, 8, 9, false},
        };
        for (Object[] row : rows) {
            boolean fits = (Boolean) row[3];
            String run = """
                install 0 0 1 0 -> 1
                export 0 WHAT 0 -> 1
                install 1 1 1 0 -> 2
                """.replace("WHAT", "" + (8 * (Integer) row[2] + 5));
            String between = row[0] + " " + row[1];
            SCRIPT.run("promise 4: LOW .. HIGH with VERSION " + row[2], run + "need 1 5 " + between + " -> 1\n"
                    + (fits ? "resolve 1 -> 2\nabout 1 5 -> 0\ncount 4 -> 1" : "resolve 1 -> ISE\ncount 4 -> 0"));
            SCRIPT.run("promise 4: optional, LOW .. HIGH with VERSION " + row[2], run + "resolve 0 -> 1\n"
                    + "need 1 5 " + between + " optional -> 1\n"
                    + "resolve 1 -> 1\nabout 1 5 -> " + (fits ? "0" : "-1"));
        }
        SCRIPT.run("promise 4: package 0 .. 7, low and high 0 .. 9", """
            install 0 0 1 0 -> 1
            need 0 -1 0 9 -> IAE
            need 0 8 0 9 -> IAE
            need 0 0 -1 9 -> IAE
            need 0 0 10 9 -> IAE
            need 0 0 0 -1 -> IAE
            need 0 0 0 10 -> IAE
            about 0 4 -> 0
            need 0 0 0 9 -> 1
            need 0 7 9 0 -> 2
            """);
    }

    private static void needTakesLowAboveHigh() {
        SCRIPT.run("promise 4: LOW above HIGH is taken, and no VERSION fits", """
            install 0 0 1 0 -> 1
            export 0 40 0 -> 1
            resolve 0 -> 1
            install 1 1 1 0 -> 2
            need 1 0 6 5 -> 1
            resolve 1 -> ISE
            count 4 -> 0
            install 2 2 1 0 -> 3
            need 2 0 5 4 optional -> 1
            resolve 2 -> 1
            about 2 5 -> -1
            """);
    }

    private static void needRefusesWhatIsNotInstalled() {
        SCRIPT.run("promise 4: it is not INSTALLED: RESOLVED, ACTIVE", """
            install 0 0 1 0 -> 1
            resolve 0 -> 1
            need 0 1 0 9 -> ISE
            need 0 1 0 9 optional -> ISE
            about 0 4 -> 0
            start 0 -> 1
            need 0 1 0 9 -> ISE
            stop 0 -> 0
            need 0 1 0 9 -> ISE
            about 0 4 -> 0
            update 0 -> 0
            need 0 1 0 9 -> 1
            """);
    }

    private static void needRefusesAFourthAndAPackageTwice() {
        SCRIPT.run("promise 4: 3 are there, optional or not", """
            install 0 0 1 0 -> 1
            need 0 0 0 9 -> 1
            need 0 1 0 9 optional -> 2
            need 0 2 0 9 -> 3
            need 0 3 0 9 -> UOE
            need 0 3 0 9 optional -> UOE
            about 0 4 -> 3
            # EXPORTS are counted apart
            export 0 0 0 -> 1
            install 1 1 1 0 -> 2
            need 1 3 0 9 -> 1
            update 0 -> 0
            about 0 4 -> 0
            need 0 3 0 9 -> 1
            """);
        SCRIPT.run("promise 4: one of the PACKAGE is there", """
            install 0 0 1 0 -> 1
            need 0 7 0 0 -> 1
            need 0 7 0 0 -> UOE
            need 0 7 1 9 -> UOE
            need 0 7 0 0 optional -> UOE
            about 0 4 -> 1
            need 0 0 0 9 optional -> 2
            need 0 0 0 9 -> UOE
            need 0 0 0 9 optional -> UOE
            about 0 4 -> 2
            # an EXPORT of the PACKAGE does not count
            export 0 1 0 -> 1
            need 0 1 0 9 -> 3
            """);
        SCRIPT.run("promise 4: what is refused leaves LOW, HIGH and optional", """
            install 0 0 1 0 -> 1
            export 0 0 0 -> 1
            install 1 1 1 0 -> 2
            need 1 0 1 9 -> 1
            need 1 0 0 9 optional -> UOE
            resolve 1 -> ISE
            """);
    }

    private static void resolveOfOneThatIsResolved() {
        SCRIPT.run("promise 5: RESOLVED or ACTIVE: answers 0", """
            install 0 0 1 0 -> 1
            install 1 1 1 0 -> 2
            export 1 0 0 -> 1
            need 0 0 0 9 -> 1
            resolve 0 -> 2
            resolve 0 -> 0
            resolve 1 -> 0
            about 0 0 -> 2
            start 0 -> 1
            resolve 0 -> 0
            about 0 0 -> 3
            stop 0 -> 0
            resolve 0 -> 0
            about 0 0 -> 2
            # none of these was a RESOLVING
            count 4 -> 1
            count 5 -> 2
            """);
        SCRIPT.run("promise 5: answers 0 even if it could not be RESOLVED again", """
            install 0 0 1 0 -> 1
            install 1 1 1 0 -> 2
            export 1 0 0 -> 1
            need 0 0 0 9 -> 1
            resolve 0 -> 2
            uninstall 1 -> 1
            resolve 0 -> 0
            about 0 5 -> 101
            refresh -> 1
            resolve 0 -> ISE
            """);
    }

    private static void resolveThatCannotBe() {
        SCRIPT.run("promise 5: it can't be: nobody exports the PACKAGE", """
            install 0 0 1 0 -> 1
            need 0 0 0 9 -> 1
            resolve 0 -> ISE
            about 0 0 -> 1
            count 4 -> 0
            count 5 -> 0
            # its own EXPORT is enough
            export 0 0 0 -> 1
            resolve 0 -> 1
            count 4 -> 1
            """);
        SCRIPT.run("promise 5: it can't be: every choice has a CLASH", """
            install 0 0 1 0 -> 1
            install 1 1 1 0 -> 2
            export 0 0 0 -> 1
            export 1 0 0 -> 1
            export 1 1 1 -> 2
            need 0 1 0 9 -> 1
            resolve 0 -> ISE
            about 0 0 -> 1
            about 1 0 -> 1
            about 0 5 -> -1
            count 4 -> 1
            count 5 -> 0
            """);
        SCRIPT.run("promise 5: it can't be after 300 TRIES", Searches.unsolvableAfter300(1, 0) + """
            resolve 0 -> ISE
            count 4 -> 300
            count 5 -> 0
            about 0 0 -> 1
            about 1 0 -> 1
            about 0 5 -> -1
            """);
    }

    private static void resolveThatIsTooHard() {
        SCRIPT.run("promise 5: TOO HARD, the 301st TRY is counted, but chooses nothing",
                Searches.tooHard(1, 0) + """
            resolve 0 -> AE
            count 4 -> 301
            count 5 -> 0
            about 0 0 -> 1
            about 1 0 -> 1
            about 0 5 -> -1
            about 0 6 -> -1
            about 0 7 -> -1
            resolve 0 -> AE
            count 4 -> 301
            """);
        SCRIPT.run("promise 5: the 300th TRY may be the solution", Searches.solvedBy300() + """
            resolve 0 -> 2
            count 4 -> 300
            count 5 -> 2
            about 0 0 -> 2
            about 6 0 -> 2
            about 1 0 -> 1
            about 0 5 -> 6
            about 0 6 -> 2
            about 0 7 -> 2
            about 6 5 -> 2
            """);
        SCRIPT.run("promise 5: the 301st TRY may not", Searches.solvedBy301() + """
            resolve 0 -> AE
            count 4 -> 301
            count 5 -> 0
            about 0 0 -> 1
            about 6 0 -> 1
            about 0 5 -> -1
            about 6 5 -> -1
            """);
    }

    private static void resolveAnswersHowMany() {
        SCRIPT.run("promise 5: answers how many became RESOLVED, 1 at least", """
            install 7 0 1 0 -> 1
            resolve 7 -> 1
            count 4 -> 0
            count 5 -> 1
            # those that were RESOLVED before do not count
            export 7 0 0 -> ISE
            install 0 1 1 0 -> 2
            export 0 0 0 -> 1
            resolve 0 -> 1
            install 1 2 1 0 -> 3
            need 1 0 0 9 -> 1
            resolve 1 -> 1
            count 5 -> 1
            """);
        SCRIPT.run("promise 5: 6 at most, for there are 6 NAMES", """
            install 0 0 1 0 -> 1
            install 1 1 1 0 -> 2
            install 2 2 1 0 -> 3
            install 3 3 1 0 -> 4
            install 4 4 1 0 -> 5
            install 7 5 1 0 -> 6
            export 1 1 0 -> 1
            export 2 2 0 -> 1
            export 3 3 0 -> 1
            export 4 4 0 -> 1
            export 7 7 0 -> 1
            need 0 1 0 9 -> 1
            need 0 2 0 9 -> 2
            need 0 3 0 9 -> 3
            need 1 4 0 9 -> 1
            need 4 7 0 9 -> 1
            resolve 0 -> 6
            count 4 -> 5
            count 5 -> 6
            install 5 0 1 0 -> 7
            install 6 5 1 0 -> 8
            resolve 5 -> ISE
            resolve 6 -> ISE
            """);
    }

    private static void startMakesWanted() {
        SCRIPT.run("promise 6: WANTED from now on, if it is ACTIVE", """
            install 0 0 1 0 -> 1
            about 0 1 -> 0
            resolve 0 -> 1
            about 0 1 -> 0
            start 0 -> 1
            about 0 1 -> 1
            """);
        SCRIPT.run("promise 6: WANTED also if it can't be RESOLVED", """
            install 0 0 1 0 -> 1
            need 0 0 0 9 -> 1
            start 0 -> ISE
            about 0 1 -> 1
            about 0 0 -> 1
            event -> ISE
            """);
        SCRIPT.run("promise 6: WANTED also if its NAME is taken", """
            install 0 0 1 0 -> 1
            install 1 0 1 0 -> 2
            resolve 1 -> 1
            start 0 -> ISE
            about 0 1 -> 1
            about 0 0 -> 1
            """);
        SCRIPT.run("promise 6: WANTED also if that is TOO HARD", Searches.tooHard(1, 0) + """
            start 0 -> AE
            about 0 1 -> 1
            about 0 0 -> 1
            about 1 1 -> 0
            count 4 -> 301
            event -> ISE
            """);
        SCRIPT.run("promise 6: WANTED also if the ACTIVATOR throws", """
            install 0 0 1 1 -> 1
            start 0 -> UOE
            about 0 1 -> 1
            about 0 0 -> 2
            event -> ISE
            """);
        SCRIPT.run("promise 6: only the one that is started is WANTED", """
            install 0 0 1 0 -> 1
            install 1 1 1 0 -> 2
            export 1 0 0 -> 1
            need 0 0 0 9 -> 1
            start 0 -> 1
            about 1 0 -> 2
            about 1 1 -> 0
            event -> 100
            event -> ISE
            """);
    }

    private static void startKeepsWhatWasResolved() {
        SCRIPT.run("promise 6: RESOLVED BUNDLES stay so", """
            install 0 0 1 1 -> 1
            install 1 1 1 0 -> 2
            install 2 2 1 0 -> 3
            export 1 0 0 -> 1
            need 1 1 0 9 -> 1
            export 2 1 0 -> 1
            need 0 0 0 9 -> 1
            start 0 -> UOE
            about 0 0 -> 2
            about 1 0 -> 2
            about 2 0 -> 2
            about 0 5 -> 1
            about 1 5 -> 2
            count 4 -> 2
            count 5 -> 3
            # and need no RESOLVING the next time
            install 3 3 1 0 -> 4
            resolve 3 -> 1
            start 0 -> UOE
            count 4 -> 0
            count 5 -> 1
            """);
    }

    private static void startOfAnActiveOne() {
        for (int activator : new int[] {0, 2, 4}) {
            boolean registers = activator == 2;
            SCRIPT.run("promise 6: it is ACTIVE: nothing more, activator " + activator, """
                install 0 0 1 ACTIVATOR -> 1
                start 0 -> 1
                count 1 -> SERVICES
                count 2 -> EVENTS
                start 0 -> 1
                start 0 -> 1
                about 0 0 -> 3
                count 1 -> SERVICES
                count 2 -> EVENTS
                """.replace("ACTIVATOR", "" + activator).replace("SERVICES", registers ? "1" : "0")
                    .replace("EVENTS", registers ? "2" : "1"));
        }
        SCRIPT.run("promise 6: it is ACTIVE: nothing more, activator 3", """
            install 0 0 1 2 -> 1
            install 1 1 1 3 -> 2
            start 0 -> 1
            start 1 -> 1
            start 1 -> 1
            # GOT once, not twice
            unregister 0 0 -> 1
            start 1 -> 1
            """);
    }

    private static void startAboveTheLevel() {
        SCRIPT.run("promise 6: its LEVEL is above: nothing more, not even RESOLVING", """
            install 0 0 2 1 -> 1
            start 0 -> 0
            about 0 0 -> 1
            about 0 1 -> 1
            install 1 1 2 0 -> 2
            need 1 0 0 9 -> 1
            start 1 -> 0
            about 1 1 -> 1
            count 5 -> 0
            event -> ISE
            # also if it is RESOLVED
            install 2 2 5 0 -> 3
            resolve 2 -> 1
            level 4 -> 0
            start 2 -> 0
            about 2 0 -> 2
            """);
        SCRIPT.run("promise 6: its LEVEL is that of the FRAMEWORK, or below: it is STARTED", """
            level 3 -> 0
            install 0 0 4 0 -> 1
            install 1 1 3 0 -> 2
            install 2 2 2 0 -> 3
            install 3 3 1 0 -> 4
            start 0 -> 0
            start 1 -> 1
            start 2 -> 1
            start 3 -> 1
            event -> 101
            event -> 102
            event -> 103
            event -> ISE
            """);
    }

    private static void stopMakesNotWanted() {
        SCRIPT.run("promise 7: it is not WANTED from now on: INSTALLED", """
            install 0 0 2 0 -> 1
            start 0 -> 0
            stop 0 -> 0
            about 0 1 -> 0
            about 0 0 -> 1
            level 2 -> 0
            stop 0 -> 0
            about 0 1 -> 0
            event -> ISE
            """);
        SCRIPT.run("promise 7: it is not WANTED from now on: RESOLVED", """
            install 0 0 1 1 -> 1
            start 0 -> UOE
            stop 0 -> 0
            about 0 1 -> 0
            about 0 0 -> 2
            event -> ISE
            """);
        SCRIPT.run("promise 7: ACTIVE: it is STOPPED, once", """
            install 0 0 1 0 -> 1
            start 0 -> 1
            stop 0 -> 0
            about 0 1 -> 0
            about 0 0 -> 2
            event -> 100
            event -> 200
            stop 0 -> 0
            event -> ISE
            """);
    }

    private static void stopAnswersHowManyServices() {
        SCRIPT.run("promise 7: answers how many SERVICES it had", """
            install 0 0 1 0 -> 1
            install 1 1 1 2 -> 2
            start 0 -> 1
            start 1 -> 1
            # what it GOT is none of its own
            get 0 0 -> 0
            stop 0 -> 0
            start 0 -> 1
            register 0 3 0.0 -> 1
            stop 0 -> 1
            start 0 -> 1
            register 0 0 0.0 -> 2
            register 0 1 0.0 -> 3
            register 0 2 0.0 -> 4
            unregister 0 3 -> 0
            stop 0 -> 2
            count 1 -> 1
            stop 0 -> 0
            """);
        BundleHall hall = SCRIPT.run("promise 7: answers 20", """
            install 0 0 1 0 -> 1
            start 0 -> 1
            """);
        for (int i = 0; i < 20; i++) {
            SCRIPT.go("promise 7: answers 20", hall, "register 0 0 0.0 -> " + i);
        }
        SCRIPT.go("promise 7: answers 20", hall, """
            stop 0 -> 20
            about 0 2 -> 0
            count 1 -> 0
            """);
    }
}
