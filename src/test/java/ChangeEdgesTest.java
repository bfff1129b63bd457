/** Promises 8 to 11: a run of its own for each sentence that names a boundary case. */
public final class ChangeEdgesTest {
    private static final Script SCRIPT = new Script();

    public static void main(String[] args) {
        levelTakesOneToFive();
        levelThatStays();
        levelRisesInOrder();
        levelRisesFromTheNextOne();
        levelPassesOverWhatIsThrown();
        levelFallsInOrder();
        levelFallsToTheOneThatStays();
        uninstallInEachState();
        uninstallLeavesWires();
        uninstallAnswersWiresOfOthers();
        updateInEachState();
        updateKeepsWhatStays();
        updateAnswersWiresOfOthers();
        wiresToPortsOfTwoLives();
        refreshWithNothingOld();
        refreshFindsOldPorts();
        refreshFollowsWires();
        refreshStopsAndStartsInOrder();
        refreshStartsWhatIsWanted();
        refreshPassesOverWhatIsThrown();
        SCRIPT.end();
    }

    private static void levelTakesOneToFive() {
        SCRIPT.run("promise 8: level 1 .. 5", """
            level 0 -> IAE
            level 6 -> IAE
            count 0 -> 1
            level 5 -> 0
            count 0 -> 5
            level 6 -> IAE
            level 0 -> IAE
            count 0 -> 5
            level 1 -> 0
            count 0 -> 1
            """);
    }

    private static void levelThatStays() {
        SCRIPT.run("promise 8: the level that is there already: nothing", """
            install 0 0 1 3 -> 1
            install 1 1 1 2 -> 2
            install 2 2 2 0 -> 3
            start 0 -> UOE
            start 1 -> 1
            start 2 -> 0
            event -> 300
            event -> 101
            # 0 is WANTED, not ACTIVE, and could be now
            level 1 -> 0
            about 0 0 -> 2
            about 1 0 -> 3
            about 2 0 -> 1
            event -> ISE
            """);
    }

    private static void levelRisesInOrder() {
        SCRIPT.run("promise 8: rising, level by level, by rising numbers", """
            install 0 0 5 0 -> 1
            install 1 1 3 0 -> 2
            install 2 2 2 0 -> 3
            install 5 3 3 0 -> 4
            install 6 4 4 0 -> 5
            install 7 5 2 0 -> 6
            start 0 -> 0
            start 1 -> 0
            start 2 -> 0
            start 5 -> 0
            start 6 -> 0
            start 7 -> 0
            level 5 -> 6
            event -> 102
            event -> 107
            event -> 101
            event -> 105
            event -> 106
            event -> 100
            event -> ISE
            """);
        SCRIPT.run("promise 8: rising, all WANTED ones of that LEVEL, and no others", """
            install 0 0 3 0 -> 1
            install 1 1 3 0 -> 2
            install 2 2 4 0 -> 3
            start 0 -> 0
            start 2 -> 0
            level 2 -> 0
            about 0 0 -> 1
            level 3 -> 1
            about 0 0 -> 3
            # 1 is not WANTED, 2 is above
            about 1 0 -> 1
            about 2 0 -> 1
            level 4 -> 1
            about 2 0 -> 3
            level 5 -> 0
            """);
        SCRIPT.run("promise 8: rising, the first and the last number", """
            install 0 0 2 0 -> 1
            install 7 1 2 0 -> 2
            start 7 -> 0
            start 0 -> 0
            level 2 -> 2
            event -> 100
            event -> 107
            """);
    }

    private static void levelRisesFromTheNextOne() {
        SCRIPT.run("promise 8: rising, those of LEVELS that were reached before are not tried again", """
            install 0 0 1 3 -> 1
            install 1 1 2 3 -> 2
            install 2 2 3 3 -> 3
            install 3 3 1 2 -> 4
            start 0 -> UOE
            start 1 -> 0
            start 2 -> 0
            level 2 -> 0
            about 1 0 -> 2
            start 3 -> 1
            level 3 -> 1
            about 0 0 -> 2
            about 1 0 -> 2
            about 2 0 -> 3
            """);
    }

    private static void levelPassesOverWhatIsThrown() {
        SCRIPT.run("promise 8: rising, can't be RESOLVED is passed over", """
            install 0 0 2 0 -> 1
            need 0 0 0 9 -> 1
            install 1 1 2 0 -> 2
            start 0 -> 0
            start 1 -> 0
            level 2 -> 1
            count 0 -> 2
            about 0 0 -> 1
            about 0 1 -> 1
            about 1 0 -> 3
            """);
        SCRIPT.run("promise 8: rising, TOO HARD is passed over", Searches.tooHard(2, 0) + """
            install 6 1 2 0 -> 7
            start 0 -> 0
            start 6 -> 0
            level 2 -> 1
            count 0 -> 2
            about 0 0 -> 1
            about 0 1 -> 1
            about 6 0 -> 3
            """);
        SCRIPT.run("promise 8: rising, an ACTIVATOR that throws is passed over", """
            install 0 0 2 1 -> 1
            install 1 1 2 3 -> 2
            install 2 2 2 4 -> 3
            install 3 3 2 0 -> 4
            level 2 -> 0
            start 2 -> 1
            level 1 -> 1
            start 0 -> 0
            start 1 -> 0
            start 3 -> 0
            level 3 -> 1
            about 0 0 -> 2
            about 0 1 -> 1
            about 1 0 -> 2
            about 1 1 -> 1
            about 2 0 -> 2
            about 2 1 -> 1
            about 3 0 -> 3
            """);
        BundleHall hall = SCRIPT.run("promise 8: rising, no room for a SERVICE is passed over", """
            install 0 0 1 0 -> 1
            install 1 1 2 2 -> 2
            install 2 2 2 0 -> 3
            start 0 -> 1
            start 1 -> 0
            start 2 -> 0
            """);
        for (int i = 0; i < 20; i++) {
            SCRIPT.go("promise 8: 20 SERVICES", hall, "register 0 1 0.0 -> " + i);
        }
        SCRIPT.go("promise 8: rising, no room for a SERVICE is passed over", hall, """
            level 2 -> 1
            about 1 0 -> 2
            about 1 1 -> 1
            about 2 0 -> 3
            count 1 -> 20
            """);
    }

    private static void levelFallsInOrder() {
        SCRIPT.run("promise 8: falling, level by level, by falling numbers", """
            install 0 0 5 0 -> 1
            install 1 1 3 0 -> 2
            install 2 2 2 0 -> 3
            install 5 3 3 0 -> 4
            install 6 4 4 0 -> 5
            install 7 5 2 0 -> 6
            level 5 -> 0
            start 0 -> 1
            start 1 -> 1
            start 2 -> 1
            start 5 -> 1
            start 6 -> 1
            start 7 -> 1
            event -> 100
            event -> 101
            event -> 102
            event -> 105
            event -> 106
            event -> 107
            level 1 -> 6
            event -> 200
            event -> 206
            event -> 205
            event -> 201
            event -> 207
            event -> 202
            event -> ISE
            about 0 0 -> 2
            about 0 1 -> 1
            about 7 0 -> 2
            about 7 1 -> 1
            """);
        SCRIPT.run("promise 8: falling, the first and the last number", """
            level 2 -> 0
            install 0 0 2 2 -> 1
            install 7 1 2 2 -> 2
            start 0 -> 1
            start 7 -> 1
            event -> 300
            event -> 100
            event -> 301
            event -> 107
            level 1 -> 2
            event -> 401
            event -> 207
            event -> 400
            event -> 200
            event -> ISE
            """);
    }

    private static void levelFallsToTheOneThatStays() {
        SCRIPT.run("promise 8: falling, only LEVELS above", """
            level 5 -> 0
            install 0 0 2 0 -> 1
            install 1 1 3 0 -> 2
            install 2 2 4 0 -> 3
            install 3 3 4 0 -> 4
            start 0 -> 1
            start 1 -> 1
            start 2 -> 1
            resolve 3 -> 1
            # 3 is not ACTIVE
            level 3 -> 1
            about 0 0 -> 3
            about 1 0 -> 3
            about 2 0 -> 2
            about 3 0 -> 2
            level 2 -> 1
            about 0 0 -> 3
            about 1 0 -> 2
            level 1 -> 1
            about 0 0 -> 2
            # they have stayed WANTED
            level 5 -> 3
            about 3 0 -> 2
            """);
    }

    private static void uninstallInEachState() {
        SCRIPT.run("promise 9: INSTALLED, RESOLVED: no EVENT", """
            install 0 0 1 0 -> 1
            uninstall 0 -> 0
            about 0 0 -> 0
            install 0 0 1 0 -> 1
            resolve 0 -> 1
            uninstall 0 -> 0
            about 0 0 -> 0
            event -> ISE
            """);
        SCRIPT.run("promise 9: ACTIVE: it is STOPPED", """
            install 0 0 1 2 -> 1
            install 1 1 1 2 -> 2
            start 0 -> 1
            start 1 -> 1
            get 0 0 -> 1
            event -> 300
            event -> 100
            event -> 301
            event -> 101
            uninstall 0 -> 0
            event -> 400
            event -> 200
            event -> ISE
            count 1 -> 1
            # what it GOT was given back
            unregister 1 1 -> 0
            """);
        SCRIPT.run("promise 9: it is NONE", """
            install 0 0 2 2 -> 1
            export 0 0 0 -> 1
            need 0 0 0 9 -> 1
            level 2 -> 0
            start 0 -> 1
            uninstall 0 -> 0
            about 0 0 -> 0
            about 0 1 -> 0
            about 0 2 -> 0
            about 0 3 -> 0
            about 0 4 -> 0
            about 0 5 -> -1
            uninstall 0 -> NSE
            start 0 -> NSE
            stop 0 -> NSE
            resolve 0 -> NSE
            update 0 -> NSE
            export 0 0 0 -> NSE
            need 0 0 0 9 -> NSE
            register 0 0 0.0 -> NSE
            get 0 0 -> NSE
            giveBack 0 0 -> NSE
            unregister 0 0 -> NSE
            # no more WANTED
            level 1 -> 0
            level 2 -> 0
            """);
    }

    private static void uninstallLeavesWires() {
        SCRIPT.run("promise 9: WIRES to its PORTS stay", """
            install 0 0 1 0 -> 1
            export 0 0 0 -> 1
            install 1 1 1 0 -> 2
            need 1 0 0 9 -> 1
            install 2 2 1 0 -> 3
            need 2 0 0 9 optional -> 1
            start 1 -> 1
            resolve 2 -> 1
            about 1 5 -> 0
            about 2 5 -> 0
            uninstall 0 -> 2
            about 1 5 -> 100
            about 2 5 -> 100
            about 1 0 -> 3
            about 2 0 -> 2
            """);
    }

    private static void uninstallAnswersWiresOfOthers() {
        SCRIPT.run("promise 9: its own WIRES do not count, and go", """
            install 0 0 1 0 -> 1
            export 0 0 0 -> 1
            need 0 0 0 9 -> 1
            resolve 0 -> 1
            about 0 5 -> 0
            uninstall 0 -> 0
            about 0 5 -> -1
            """);
        SCRIPT.run("promise 9: WIRES to other BUNDLES do not count", """
            install 0 0 1 0 -> 1
            export 0 0 0 -> 1
            install 1 1 1 0 -> 2
            export 1 1 0 -> 1
            install 2 2 1 0 -> 3
            need 2 0 0 9 -> 1
            need 2 1 0 9 -> 2
            need 2 7 0 9 optional -> 3
            resolve 2 -> 3
            uninstall 2 -> 0
            uninstall 1 -> 0
            uninstall 0 -> 0
            """);
        SCRIPT.run("promise 9: all PORTS, all BUNDLES, optional or not", fifteenWires() + "uninstall 7 -> 15\n");
        SCRIPT.run("promise 9: WIRES of those that are gone do not count", fifteenWires() + """
            uninstall 0 -> 0
            update 1 -> 0
            uninstall 7 -> 9
            """);
        SCRIPT.run("promise 9: WIRES to OLD PORTS of it count", """
            install 0 0 1 0 -> 1
            export 0 0 0 -> 1
            install 1 1 1 0 -> 2
            need 1 0 0 9 -> 1
            resolve 1 -> 2
            update 0 -> 1
            uninstall 0 -> 1
            install 0 0 1 0 -> 2
            uninstall 0 -> 1
            refresh -> 1
            install 0 0 1 0 -> 2
            uninstall 0 -> 0
            """);
    }

    /** Bundles 0 to 4 have three WIRES each to bundle 7, of which one each is optional. */
    private static String fifteenWires() {
        StringBuilder run = new StringBuilder("""
            install 7 5 1 0 -> 1
            export 7 0 0 -> 1
            export 7 1 0 -> 2
            export 7 2 0 -> 3
            resolve 7 -> 1
            """);
        for (int i = 0; i < 5; i++) {
            run.append("install " + i + " " + i + " 1 0 -> " + (i + 2) + "\n");
            run.append("need " + i + " 0 0 9 -> 1\n");
            run.append("need " + i + " 1 0 9 optional -> 2\n");
            run.append("need " + i + " 2 0 9 -> 3\n");
            run.append("resolve " + i + " -> 1\n");
        }
        return run.toString();
    }

    private static void updateInEachState() {
        SCRIPT.run("promise 10: INSTALLED, RESOLVED: no EVENT", """
            install 0 0 1 0 -> 1
            export 0 0 0 -> 1
            need 0 0 0 9 -> 1
            update 0 -> 0
            about 0 0 -> 1
            about 0 3 -> 0
            about 0 4 -> 0
            export 0 0 0 -> 1
            need 0 0 0 9 -> 1
            resolve 0 -> 1
            about 0 5 -> 0
            update 0 -> 0
            about 0 0 -> 1
            about 0 3 -> 0
            about 0 4 -> 0
            about 0 5 -> -1
            event -> ISE
            """);
        SCRIPT.run("promise 10: ACTIVE: it is STOPPED, and not started again", """
            install 0 0 1 2 -> 1
            install 1 1 1 2 -> 2
            start 0 -> 1
            start 1 -> 1
            get 0 0 -> 1
            event -> 300
            event -> 100
            event -> 301
            event -> 101
            update 0 -> 0
            event -> 400
            event -> 200
            event -> ISE
            about 0 0 -> 1
            about 0 2 -> 0
            unregister 1 1 -> 0
            """);
        SCRIPT.run("promise 10: without EXPORTS and IMPORTS: three of each may come", """
            install 0 0 1 0 -> 1
            export 0 0 0 -> 1
            export 0 1 0 -> 2
            export 0 2 0 -> 3
            need 0 3 0 9 optional -> 1
            need 0 4 0 9 optional -> 2
            need 0 5 0 9 -> 3
            update 0 -> 0
            # nothing is left of the one that could not be
            resolve 0 -> 1
            update 0 -> 0
            export 0 2 0 -> 1
            export 0 1 0 -> 2
            export 0 0 0 -> 3
            export 0 3 0 -> UOE
            need 0 5 0 9 -> 1
            need 0 4 0 9 -> 2
            need 0 3 0 9 -> 3
            need 0 2 0 9 -> UOE
            """);
    }

    private static void updateKeepsWhatStays() {
        SCRIPT.run("promise 10: NAME stays", """
            install 0 5 1 0 -> 1
            resolve 0 -> 1
            install 1 5 1 0 -> 2
            resolve 1 -> ISE
            # while it is INSTALLED its NAME is free, then the other has it
            update 0 -> 0
            resolve 1 -> 1
            resolve 0 -> ISE
            """);
        SCRIPT.run("promise 10: LEVEL stays", """
            install 0 0 5 0 -> 1
            update 0 -> 0
            level 4 -> 0
            start 0 -> 0
            level 5 -> 1
            """);
        for (int activator : new int[] {1, 3}) {
            SCRIPT.run("promise 10: ACTIVATOR stays", """
                install 0 0 1 ACTIVATOR -> 1
                start 0 -> UOE
                update 0 -> 0
                start 0 -> UOE
                """.replace("ACTIVATOR", "" + activator));
        }
        SCRIPT.run("promise 10: ACTIVATOR stays, 4 may start once more", """
            install 0 0 1 4 -> 1
            start 0 -> 1
            update 0 -> 0
            start 0 -> 1
            stop 0 -> 0
            start 0 -> UOE
            update 0 -> 0
            start 0 -> 1
            """);
        SCRIPT.run("promise 10: WANTED stays", """
            install 0 0 2 0 -> 1
            start 0 -> 0
            update 0 -> 0
            about 0 1 -> 1
            level 2 -> 1
            update 0 -> 0
            about 0 1 -> 1
            about 0 0 -> 1
            stop 0 -> 0
            update 0 -> 0
            about 0 1 -> 0
            level 1 -> 0
            level 2 -> 0
            """);
    }

    private static void updateAnswersWiresOfOthers() {
        SCRIPT.run("promise 10: its own WIRES do not count, and go", """
            install 0 0 1 0 -> 1
            export 0 0 0 -> 1
            need 0 0 0 9 -> 1
            resolve 0 -> 1
            update 0 -> 0
            about 0 5 -> -1
            refresh -> 0
            """);
        SCRIPT.run("promise 10: all PORTS, all BUNDLES, OLD or not", fifteenWires() + """
            update 7 -> 15
            about 0 5 -> 107
            about 4 7 -> 107
            update 7 -> 15
            uninstall 7 -> 15
            """);
    }

    private static void wiresToPortsOfTwoLives() {
        String two = """
            install 0 0 1 0 -> 1
            export 0 0 0 -> 1
            install 1 1 1 0 -> 2
            need 1 0 0 9 -> 1
            resolve 1 -> 2
            update 0 -> 1
            export 0 0 0 -> 1
            install 2 2 1 0 -> 3
            need 2 0 0 9 -> 1
            resolve 2 -> 2
            about 1 5 -> 100
            about 2 5 -> 0
            """;
        SCRIPT.run("promise 9: WIRES to PORTS of before and of now", two + "uninstall 0 -> 2\n");
        SCRIPT.run("promise 10: WIRES to PORTS of before and of now", two + """
            update 0 -> 2
            about 1 5 -> 100
            about 2 5 -> 100
            """);
    }

    private static void refreshWithNothingOld() {
        SCRIPT.run("promise 11: nothing is there", """
            refresh -> 0
            event -> ISE
            """);
        SCRIPT.run("promise 11: no PORT is OLD: nothing", """
            install 0 0 1 0 -> 1
            export 0 0 0 -> 1
            need 0 0 0 9 -> 1
            install 1 1 1 0 -> 2
            need 1 0 0 9 -> 1
            install 2 2 1 3 -> 3
            need 2 0 0 9 optional -> 1
            start 1 -> 1
            start 2 -> UOE
            event -> 101
            refresh -> 0
            about 0 0 -> 2
            about 1 0 -> 3
            about 1 5 -> 0
            about 2 0 -> 2
            about 2 1 -> 1
            event -> ISE
            """);
        SCRIPT.run("promise 11: an OLD PORT without a WIRE to it", """
            install 0 0 1 0 -> 1
            export 0 0 0 -> 1
            resolve 0 -> 1
            update 0 -> 0
            refresh -> 0
            about 0 0 -> 1
            uninstall 0 -> 0
            refresh -> 0
            """);
    }

    private static final String ONE_WIRE = """
        install 0 0 1 0 -> 1
        export 0 0 0 -> 1
        install 1 1 1 0 -> 2
        need 1 0 0 9 -> 1
        start 1 -> 1
        stop 1 -> 0
        """;

    private static void refreshFindsOldPorts() {
        SCRIPT.run("promise 11: OLD, for its BUNDLE is INSTALLED", ONE_WIRE + """
            update 0 -> 1
            about 1 5 -> 100
            refresh -> 1
            about 1 0 -> 1
            about 1 5 -> -1
            about 1 4 -> 1
            refresh -> 0
            """);
        SCRIPT.run("promise 11: OLD, for its BUNDLE is NONE", ONE_WIRE + """
            uninstall 0 -> 1
            about 1 5 -> 100
            refresh -> 1
            about 1 0 -> 1
            about 1 5 -> -1
            refresh -> 0
            """);
        SCRIPT.run("promise 11: OLD, made before its BUNDLE was updated", ONE_WIRE + """
            update 0 -> 1
            export 0 0 0 -> 1
            start 0 -> 1
            about 1 5 -> 100
            refresh -> 1
            about 0 0 -> 3
            about 1 0 -> 1
            resolve 1 -> 1
            about 1 5 -> 0
            refresh -> 0
            """);
        SCRIPT.run("promise 11: OLD, made before its BUNDLE was installed", ONE_WIRE + """
            uninstall 0 -> 1
            install 0 0 1 0 -> 2
            about 1 5 -> 100
            export 0 0 0 -> 1
            resolve 0 -> 1
            about 1 5 -> 100
            refresh -> 1
            resolve 1 -> 1
            about 1 5 -> 0
            refresh -> 0
            """);
        SCRIPT.run("promise 11: the WIRE of an optional IMPORT, the last of three", """
            install 0 0 1 0 -> 1
            export 0 0 0 -> 1
            install 1 1 1 0 -> 2
            export 1 1 0 -> 1
            install 2 2 1 0 -> 3
            need 2 1 0 9 -> 1
            need 2 7 0 9 optional -> 2
            need 2 0 0 9 optional -> 3
            resolve 0 -> 1
            resolve 2 -> 2
            about 2 7 -> 0
            uninstall 0 -> 1
            about 2 5 -> 1
            about 2 6 -> -1
            about 2 7 -> 100
            refresh -> 1
            # the one it also had a WIRE to stays
            about 1 0 -> 2
            about 2 0 -> 1
            """);
        SCRIPT.run("promise 11: those with a WIRE to the PORTS made since stay", """
            install 0 0 1 0 -> 1
            export 0 0 0 -> 1
            install 1 1 1 0 -> 2
            need 1 0 0 9 -> 1
            resolve 1 -> 2
            update 0 -> 1
            export 0 0 0 -> 1
            install 2 2 1 0 -> 3
            need 2 0 0 9 -> 1
            resolve 2 -> 2
            about 1 5 -> 100
            about 2 5 -> 0
            refresh -> 1
            about 1 0 -> 1
            about 2 0 -> 2
            about 2 5 -> 0
            """);
    }

    private static void refreshFollowsWires() {
        SCRIPT.run("promise 11: those with a WIRE to one of these, and so on, to the sixth", chain(true) + """
            uninstall 0 -> 1
            refresh -> 5
            about 1 0 -> 1
            about 5 0 -> 1
            """);
        SCRIPT.run("promise 11: the same by falling numbers", chain(false) + """
            uninstall 7 -> 1
            refresh -> 5
            about 6 0 -> 1
            about 2 0 -> 1
            """);
        SCRIPT.run("promise 11: not those that one of these has a WIRE to", chain(true) + """
            uninstall 3 -> 1
            refresh -> 2
            about 0 0 -> 2
            about 1 0 -> 2
            about 2 0 -> 2
            about 4 0 -> 1
            about 5 0 -> 1
            """);
        SCRIPT.run("promise 11: a ring", """
            install 0 0 1 0 -> 1
            install 1 1 1 0 -> 2
            install 2 2 1 0 -> 3
            install 3 3 1 0 -> 4
            export 0 0 0 -> 1
            export 1 1 0 -> 1
            export 2 2 0 -> 1
            export 3 3 0 -> 1
            need 1 2 0 9 -> 1
            need 2 1 0 9 -> 1
            need 2 0 0 9 -> 2
            need 3 3 0 9 -> 1
            resolve 1 -> 3
            resolve 3 -> 1
            update 0 -> 1
            refresh -> 2
            about 1 0 -> 1
            about 2 0 -> 1
            about 3 0 -> 2
            """);
        SCRIPT.run("promise 11: a ring without an OLD PORT", """
            install 0 0 1 0 -> 1
            install 1 1 1 0 -> 2
            export 0 0 0 -> 1
            export 1 1 0 -> 1
            need 0 1 0 9 -> 1
            need 1 0 0 9 -> 1
            resolve 0 -> 2
            refresh -> 0
            # the one that is updated has no WIRE any more
            update 0 -> 1
            refresh -> 1
            about 1 0 -> 1
            """);
    }

    /** Six BUNDLES, each with a WIRE to the one before: 0 to 5, or 7 down to 2. */
    private static String chain(boolean rising) {
        StringBuilder run = new StringBuilder();
        for (int i = 0; i < 6; i++) {
            int bundle = rising ? i : 7 - i;
            run.append("install " + bundle + " " + i + " 1 0 -> " + (i + 1) + "\n");
            run.append("export " + bundle + " " + i + " 0 -> 1\n");
            run.append(i == 0 ? "" : "need " + bundle + " " + (i - 1) + " 0 9 -> 1\n");
            run.append("resolve " + bundle + " -> 1\n");
        }
        return run.toString();
    }

    private static void refreshStopsAndStartsInOrder() {
        SCRIPT.run("promise 11: STOPPED by falling, STARTED by rising numbers", """
            install 3 3 1 0 -> 1
            export 3 0 0 -> 1
            install 0 0 1 0 -> 2
            need 0 0 0 9 -> 1
            install 4 1 2 0 -> 3
            need 4 0 0 9 -> 1
            install 7 2 1 0 -> 4
            need 7 0 0 9 -> 1
            level 2 -> 0
            start 4 -> 1
            start 0 -> 1
            start 7 -> 1
            event -> 104
            event -> 100
            event -> 107
            update 3 -> 3
            export 3 0 0 -> 1
            refresh -> 3
            event -> 207
            event -> 204
            event -> 200
            event -> 100
            event -> 104
            event -> 107
            event -> ISE
            """);
        SCRIPT.run("promise 11: all are INSTALLED before the first is STARTED", """
            install 3 3 1 0 -> 1
            export 3 0 0 -> 1
            install 0 0 1 0 -> 2
            need 0 0 0 9 -> 1
            need 0 1 0 9 -> 2
            install 7 2 1 0 -> 3
            export 7 1 0 -> 1
            need 7 0 0 9 -> 1
            start 7 -> 1
            start 0 -> 1
            update 3 -> 2
            export 3 0 0 -> 1
            refresh -> 2
            about 0 0 -> 3
            about 7 0 -> 3
            # bundle 0 was the first, and TOOK IN the two others
            count 4 -> 3
            count 5 -> 3
            """);
    }

    private static void refreshStartsWhatIsWanted() {
        SCRIPT.run("promise 11: WANTED ones, of a LEVEL not above", """
            level 3 -> 0
            install 0 0 1 0 -> 1
            export 0 0 0 -> 1
            install 1 1 2 0 -> 2
            need 1 0 0 9 -> 1
            install 2 2 3 0 -> 3
            need 2 0 0 9 -> 1
            install 3 3 4 0 -> 4
            need 3 0 0 9 -> 1
            install 4 4 1 0 -> 5
            need 4 0 0 9 -> 1
            start 1 -> 1
            start 2 -> 1
            resolve 3 -> 1
            start 3 -> 0
            resolve 4 -> 1
            update 0 -> 4
            export 0 0 0 -> 1
            refresh -> 4
            about 1 0 -> 3
            about 2 0 -> 3
            # 3 is above
            about 3 0 -> 1
            about 3 1 -> 1
            # 4 is not WANTED
            about 4 0 -> 1
            about 4 1 -> 0
            """);
        SCRIPT.run("promise 11: WANTED, though it was not ACTIVE", """
            install 0 0 1 0 -> 1
            export 0 0 0 -> 1
            install 1 1 1 3 -> 2
            need 1 0 0 9 -> 1
            start 1 -> UOE
            install 2 2 1 2 -> 3
            start 2 -> 1
            update 0 -> 1
            export 0 0 0 -> 1
            event -> 300
            event -> 102
            refresh -> 1
            event -> 101
            event -> ISE
            about 1 0 -> 3
            """);
        SCRIPT.run("promise 11: others that are WANTED are not STARTED", """
            install 0 0 1 0 -> 1
            export 0 0 0 -> 1
            install 1 1 1 0 -> 2
            need 1 0 0 9 -> 1
            start 1 -> 1
            install 2 2 1 3 -> 3
            start 2 -> UOE
            install 3 3 1 2 -> 4
            start 3 -> 1
            start 0 -> 1
            update 0 -> 1
            refresh -> 1
            about 2 0 -> 2
            about 2 1 -> 1
            about 0 0 -> 1
            about 0 1 -> 1
            """);
    }

    private static void refreshPassesOverWhatIsThrown() {
        SCRIPT.run("promise 11: can't be RESOLVED is passed over", """
            install 0 0 1 0 -> 1
            export 0 0 0 -> 1
            install 1 1 1 0 -> 2
            need 1 0 0 9 -> 1
            install 2 2 1 0 -> 3
            need 2 0 0 9 optional -> 1
            start 1 -> 1
            start 2 -> 1
            uninstall 0 -> 2
            refresh -> 2
            about 1 0 -> 1
            about 1 1 -> 1
            about 2 0 -> 3
            """);
        SCRIPT.run("promise 11: an ACTIVATOR that throws is passed over", """
            install 0 0 1 0 -> 1
            export 0 0 0 -> 1
            install 1 1 1 4 -> 2
            need 1 0 0 9 -> 1
            install 2 2 1 1 -> 3
            need 2 0 0 9 -> 1
            install 3 3 1 0 -> 4
            need 3 0 0 9 -> 1
            start 1 -> 1
            start 2 -> UOE
            start 3 -> 1
            update 0 -> 3
            export 0 0 0 -> 1
            refresh -> 3
            # 1 has started before since it was installed
            about 1 0 -> 2
            about 1 1 -> 1
            about 2 0 -> 2
            about 3 0 -> 3
            """);
        // While bundle 6 exports package 1, bundle 0 is resolved by it; without it that is TOO HARD.
        SCRIPT.run("promise 11: TOO HARD is passed over", Searches.tooHard(1, 0) + """
            install 6 1 1 0 -> 7
            export 6 1 0 -> 1
            resolve 6 -> 1
            update 5 -> 0
            export 5 10 0 -> 1
            export 5 3 0 -> 2
            need 5 1 0 9 optional -> 1
            resolve 5 -> 1
            start 0 -> 1
            start 5 -> 1
            about 0 6 -> 6
            about 5 5 -> 6
            update 6 -> 2
            event -> 100
            event -> 105
            refresh -> 2
            event -> 205
            event -> 200
            event -> 105
            event -> ISE
            about 0 0 -> 1
            about 0 1 -> 1
            about 5 0 -> 3
            about 5 5 -> -1
            resolve 0 -> AE
            """);
    }
}
