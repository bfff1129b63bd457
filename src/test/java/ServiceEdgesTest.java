/** Promises 12 to 19: a run of its own for each sentence that names a boundary case. */
public final class ServiceEdgesTest {
    private static final Script SCRIPT = new Script();
    private static final String TWO_ACTIVE = """
        install 0 0 1 0 -> 1
        install 1 1 1 0 -> 2
        start 0 -> 1
        start 1 -> 1
        event -> 100
        event -> 101
        """;

    public static void main(String[] args) {
        registerTakesTheLastOfEachNumber();
        registerRefusesWhatIsNotActive();
        registerTakesTwenty();
        registerNumbersServices();
        getRefusesWhatIsNotActive();
        getFindsTheBest();
        getWithoutAny();
        giveBackOfWhatIsNotThere();
        giveBackCountsDown();
        unregisterOfWhatIsNotItsOwn();
        unregisterAnswersHowOftenItWasGot();
        rankWithoutAny();
        rankIsTheMean();
        eventWithoutAny();
        eventsKeptAndLost();
        eventsOfServicesModuloHundred();
        aboutNone();
        aboutEachState();
        aboutWires();
        countBeforeAndAfter();
        countOfTheLatestResolving();
        fiveHundredAndTwelveCalls();
        SCRIPT.end();
    }

    private static void registerTakesTheLastOfEachNumber() {
        SCRIPT.run("promise 12: kind 0 .. 3", TWO_ACTIVE + """
            register 0 -1 0.0 -> IAE
            register 0 4 0.0 -> IAE
            count 1 -> 0
            register 0 0 1.5 -> 0
            register 0 3 2.5 -> 1
            rank 0 -> 1.5
            rank 3 -> 2.5
            rank 1 -> AE
            rank 2 -> AE
            """);
        SCRIPT.run("promise 12: rank -1000.0 .. 1000.0", TWO_ACTIVE + """
            register 0 0 1000.0000000000001 -> IAE
            register 0 0 -1000.0000000000001 -> IAE
            register 0 0 NaN -> IAE
            register 0 0 Infinity -> IAE
            register 0 0 -Infinity -> IAE
            count 1 -> 0
            event -> ISE
            register 0 0 1000.0 -> 0
            register 0 1 -1000.0 -> 1
            rank 0 -> 1000.0
            rank 1 -> -1000.0
            register 0 2 999.9999999999999 -> 2
            register 0 3 -999.9999999999999 -> 3
            rank 2 -> 999.9999999999999
            rank 3 -> -999.9999999999999
            """);
    }

    private static void registerRefusesWhatIsNotActive() {
        SCRIPT.run("promise 12: it is not ACTIVE: INSTALLED, RESOLVED", """
            install 0 0 1 0 -> 1
            register 0 0 0.0 -> ISE
            resolve 0 -> 1
            register 0 0 0.0 -> ISE
            start 0 -> 1
            register 0 0 0.0 -> 0
            stop 0 -> 1
            register 0 0 0.0 -> ISE
            count 1 -> 0
            update 0 -> 0
            register 0 0 0.0 -> ISE
            """);
        SCRIPT.run("promise 12: WANTED is not ACTIVE", """
            install 0 0 2 0 -> 1
            start 0 -> 0
            register 0 0 0.0 -> ISE
            level 2 -> 1
            register 0 0 0.0 -> 0
            level 1 -> 1
            register 0 0 0.0 -> ISE
            """);
    }

    private static BundleHall withServices(String title, int many) {
        BundleHall hall = SCRIPT.run(title, TWO_ACTIVE);
        for (int i = 0; i < many; i++) {
            SCRIPT.go(title, hall, "register " + i % 2 + " " + i % 4 + " " + i + ".0 -> " + i);
        }
        return hall;
    }

    private static void registerTakesTwenty() {
        String title = "promise 12: 20 SERVICES are there, of all BUNDLES and KINDS";
        SCRIPT.go(title, withServices(title, 19), """
            count 1 -> 19
            register 0 0 0.0 -> 19
            count 1 -> 20
            register 0 0 0.0 -> UOE
            register 0 3 1000.0 -> UOE
            register 1 1 0.0 -> UOE
            count 1 -> 20
            about 0 2 -> 11
            about 1 2 -> 9
            # the one that goes leaves room for one
            unregister 1 1 -> 0
            count 1 -> 19
            register 1 1 0.0 -> 20
            register 1 1 0.0 -> UOE
            unregister 0 19 -> 0
            unregister 0 0 -> 0
            register 0 0 0.0 -> 21
            register 0 0 0.0 -> 22
            register 0 0 0.0 -> UOE
            """);
        SCRIPT.go("promise 12: those that go by stopping leave room", withServices(title, 20), """
            stop 1 -> 10
            register 0 0 0.0 -> 20
            count 1 -> 11
            """);
        SCRIPT.go("promise 12: one without SERVICES stops while 20 are there", withServices(title, 20), """
            install 7 2 1 3 -> 3
            start 7 -> 1
            stop 7 -> 0
            giveBack 7 16 -> UOE
            count 1 -> 20
            """);
        SCRIPT.go("promise 12: activator 2 takes the 20th, not the 21st", withServices(title, 19), """
            install 6 2 1 2 -> 3
            install 7 3 1 2 -> 4
            start 6 -> 1
            start 7 -> UOE
            count 1 -> 20
            about 6 2 -> 1
            about 7 2 -> 0
            about 7 0 -> 2
            unregister 6 19 -> 0
            # what was refused has taken no number
            start 7 -> 1
            unregister 7 20 -> 0
            """);
    }

    private static void registerNumbersServices() {
        SCRIPT.run("promise 12: answers the SERVICE's number, none twice", TWO_ACTIVE + """
            register 0 0 0.0 -> 0
            unregister 0 0 -> 0
            register 1 0 0.0 -> 1
            # what is refused takes no number and makes no EVENT
            register 1 0 1000.5 -> IAE
            register 1 4 0.0 -> IAE
            register 7 0 0.0 -> NSE
            install 2 2 1 0 -> 3
            register 2 0 0.0 -> ISE
            register 0 1 0.0 -> 2
            event -> 300
            event -> 400
            event -> 301
            event -> 302
            event -> ISE
            stop 0 -> 1
            stop 1 -> 1
            start 0 -> 1
            register 0 0 0.0 -> 3
            """);
    }

    private static void getRefusesWhatIsNotActive() {
        SCRIPT.run("promise 13: it is not ACTIVE: INSTALLED, RESOLVED", TWO_ACTIVE + """
            register 0 0 0.0 -> 0
            install 2 2 1 0 -> 3
            get 2 0 -> ISE
            resolve 2 -> 1
            get 2 0 -> ISE
            stop 1 -> 0
            get 1 0 -> ISE
            # nothing was GOT
            unregister 0 0 -> 0
            """);
        SCRIPT.run("promise 13: kind 0 .. 3", TWO_ACTIVE + """
            register 0 0 0.0 -> 0
            register 0 3 0.0 -> 1
            get 1 -1 -> IAE
            get 1 4 -> IAE
            get 1 0 -> 0
            get 1 3 -> 1
            """);
    }

    private static void getFindsTheBest() {
        SCRIPT.run("promise 13: the greatest RANK", TWO_ACTIVE + """
            register 0 0 -1000.0 -> 0
            get 1 0 -> 0
            register 0 0 -999.9999999999999 -> 1
            get 1 0 -> 1
            register 1 0 0.0 -> 2
            get 1 0 -> 2
            register 0 0 999.9999999999999 -> 3
            register 0 0 1000.0 -> 4
            register 0 0 5.0 -> 5
            get 1 0 -> 4
            # another KIND counts for nothing
            register 0 1 -5.0 -> 6
            get 1 1 -> 6
            unregister 0 4 -> 1
            get 1 0 -> 3
            """);
        SCRIPT.run("promise 13: of these the least", TWO_ACTIVE + """
            register 0 0 1.0 -> 0
            register 0 0 2.0 -> 1
            register 1 0 2.0 -> 2
            register 0 0 2.0 -> 3
            get 1 0 -> 1
            unregister 0 1 -> 1
            get 1 0 -> 2
            unregister 1 2 -> 1
            register 0 0 2.0 -> 4
            get 1 0 -> 3
            """);
        SCRIPT.run("promise 13: 0.0 and -0.0 are the same RANK", TWO_ACTIVE + """
            register 0 0 -0.0 -> 0
            register 0 0 0.0 -> 1
            get 1 0 -> 0
            register 0 1 0.0 -> 2
            register 0 1 -0.0 -> 3
            get 1 1 -> 2
            """);
        SCRIPT.run("promise 13: GOT once more, its own too", TWO_ACTIVE + """
            register 0 0 1.0 -> 0
            get 0 0 -> 0
            get 0 0 -> 0
            get 1 0 -> 0
            giveBack 0 0 -> 1
            giveBack 1 0 -> 0
            unregister 0 0 -> 1
            """);
    }

    private static void getWithoutAny() {
        SCRIPT.run("promise 13: none of the KIND", TWO_ACTIVE + """
            get 0 0 -> UOE
            get 0 3 -> UOE
            register 0 1 0.0 -> 0
            get 0 0 -> UOE
            get 0 2 -> UOE
            get 0 1 -> 0
            unregister 0 0 -> 1
            get 0 1 -> UOE
            """);
    }

    private static void giveBackOfWhatIsNotThere() {
        SCRIPT.run("promise 14: service 0 or above", TWO_ACTIVE + """
            giveBack 0 -1 -> IAE
            giveBack 0 -2147483648 -> IAE
            giveBack 0 0 -> UOE
            giveBack 0 2147483647 -> UOE
            register 0 0 0.0 -> 0
            get 0 0 -> 0
            giveBack 0 -1 -> IAE
            giveBack 0 1 -> UOE
            giveBack 0 0 -> 0
            """);
        SCRIPT.run("promise 14: it is there no more", TWO_ACTIVE + """
            register 0 0 0.0 -> 0
            get 1 0 -> 0
            unregister 0 0 -> 1
            giveBack 1 0 -> UOE
            # the next one is another
            register 0 0 0.0 -> 1
            giveBack 1 1 -> UOE
            giveBack 1 0 -> UOE
            """);
        SCRIPT.run("promise 14: the BUNDLE did not GET it", TWO_ACTIVE + """
            register 0 0 1.0 -> 0
            register 0 0 0.0 -> 1
            get 1 0 -> 0
            giveBack 0 0 -> UOE
            giveBack 1 1 -> UOE
            giveBack 1 0 -> 0
            giveBack 1 0 -> UOE
            """);
        SCRIPT.run("promise 14: what it GOT was given back when it was STOPPED", TWO_ACTIVE + """
            register 0 0 1.0 -> 0
            get 1 0 -> 0
            stop 1 -> 0
            giveBack 1 0 -> UOE
            start 1 -> 1
            giveBack 1 0 -> UOE
            """);
    }

    private static void giveBackCountsDown() {
        SCRIPT.run("promise 14: given back once, answers how often it still has GOT it", TWO_ACTIVE + """
            register 0 0 1.0 -> 0
            get 1 0 -> 0
            get 1 0 -> 0
            get 1 0 -> 0
            get 0 0 -> 0
            giveBack 1 0 -> 2
            get 1 0 -> 0
            giveBack 1 0 -> 2
            giveBack 1 0 -> 1
            giveBack 1 0 -> 0
            giveBack 1 0 -> UOE
            giveBack 0 0 -> 0
            unregister 0 0 -> 0
            """);
    }

    private static void unregisterOfWhatIsNotItsOwn() {
        SCRIPT.run("promise 15: service 0 or above", TWO_ACTIVE + """
            unregister 0 -1 -> IAE
            unregister 0 -2147483648 -> IAE
            unregister 0 0 -> UOE
            unregister 0 2147483647 -> UOE
            register 0 0 0.0 -> 0
            unregister 0 1 -> UOE
            unregister 0 0 -> 0
            unregister 0 0 -> UOE
            """);
        SCRIPT.run("promise 15: of this BUNDLE", TWO_ACTIVE + """
            register 0 0 0.0 -> 0
            register 1 0 0.0 -> 1
            get 1 0 -> 0
            unregister 1 0 -> UOE
            unregister 0 1 -> UOE
            count 1 -> 2
            event -> 300
            event -> 301
            event -> ISE
            unregister 0 0 -> 1
            unregister 1 1 -> 0
            event -> 400
            event -> 401
            event -> ISE
            count 1 -> 0
            """);
        SCRIPT.run("promise 15: INSTALLED and RESOLVED ones have none", """
            install 0 0 1 2 -> 1
            unregister 0 0 -> UOE
            start 0 -> 1
            stop 0 -> 1
            unregister 0 0 -> UOE
            """);
    }

    private static void unregisterAnswersHowOftenItWasGot() {
        SCRIPT.run("promise 15: answers how often it was GOT, by all, and not given back", """
            install 0 0 1 0 -> 1
            install 6 1 1 3 -> 2
            install 7 2 1 0 -> 3
            start 0 -> 1
            start 7 -> 1
            register 0 0 0.0 -> 0
            register 0 0 0.0 -> 1
            get 0 0 -> 0
            get 7 0 -> 0
            get 7 0 -> 0
            # its ACTIVATOR gets it too
            start 6 -> 1
            giveBack 7 0 -> 1
            unregister 0 0 -> 3
            unregister 0 1 -> 0
            """);
    }

    private static void rankWithoutAny() {
        SCRIPT.run("promise 16: none of the KIND", TWO_ACTIVE + """
            rank -1 -> IAE
            rank 4 -> IAE
            rank 0 -> AE
            rank 3 -> AE
            register 0 1 7.0 -> 0
            rank 0 -> AE
            rank 2 -> AE
            rank 1 -> 7.0
            unregister 0 0 -> 0
            rank 1 -> AE
            """);
    }

    private static void rankIsTheMean() {
        SCRIPT.run("promise 16: of one, of some of several BUNDLES, below zero", TWO_ACTIVE + """
            register 0 0 -2.0 -> 0
            rank 0 -> -2.0
            register 1 0 1.0 -> 1
            rank 0 -> -0.5
            register 1 3 1000.0 -> 2
            rank 0 -> -0.5
            rank 3 -> 1000.0
            register 0 0 1.0 -> 3
            rank 0 -> 0.0
            """);
        SCRIPT.run("promise 16: the sum goes by rising numbers", TWO_ACTIVE + """
            register 0 0 1000.0 -> 0
            register 0 0 0.1 -> 1
            register 0 0 -1000.0 -> 2
            rank 0 -> FIRST
            unregister 0 0 -> 0
            register 0 0 1000.0 -> 3
            rank 0 -> SECOND
            """.replace("FIRST", "" + (1000.0 + 0.1 + -1000.0) / 3)
                .replace("SECOND", "" + (0.1 + -1000.0 + 1000.0) / 3));
        BundleHall hall = SCRIPT.run("promise 16: the mean of 20", TWO_ACTIVE);
        for (int i = 0; i < 20; i++) {
            SCRIPT.go("promise 16: the mean of 20", hall, "register 1 2 1000.0 -> " + i + "\nrank 2 -> 1000.0");
        }
    }

    private static void eventWithoutAny() {
        SCRIPT.run("promise 17: none", """
            event -> ISE
            event -> ISE
            install 0 0 1 0 -> 1
            resolve 0 -> 1
            event -> ISE
            start 0 -> 1
            event -> 100
            event -> ISE
            count 2 -> 0
            stop 0 -> 0
            event -> 200
            event -> ISE
            """);
        SCRIPT.run("promise 17: the first and the last BUNDLE", """
            install 0 0 1 0 -> 1
            install 7 1 1 0 -> 2
            start 7 -> 1
            start 0 -> 1
            stop 7 -> 0
            stop 0 -> 0
            event -> 107
            event -> 100
            event -> 207
            event -> 200
            event -> ISE
            """);
    }

    private static void eventsKeptAndLost() {
        SCRIPT.go("promise 17: 10 are kept, none is lost", withServices("promise 17: 10 are kept", 10), """
            count 2 -> 10
            count 3 -> 0
            """);
        BundleHall hall = withServices("promise 17: the 11th is lost", 11);
        SCRIPT.go("promise 17: the 11th is lost", hall, """
            count 2 -> 10
            count 3 -> 1
            event -> 300
            count 2 -> 9
            count 3 -> 1
            # the place is free again, for one
            register 0 0 0.0 -> 11
            register 0 0 0.0 -> 12
            count 2 -> 10
            count 3 -> 2
            """);
        for (int i = 1; i < 10; i++) {
            SCRIPT.go("promise 17: the oldest is taken out", hall, "event -> " + (300 + i));
        }
        SCRIPT.go("promise 17: those that were lost do not come back", hall, """
            event -> 311
            event -> ISE
            count 2 -> 0
            count 3 -> 2
            """);
        SCRIPT.go("promise 17: one call may fill up what is left", withServices("promise 17", 9), """
            stop 0 -> 5
            count 2 -> 10
            # of 5 SERVICES and the BUNDLE only the first had a place
            count 3 -> 5
            count 1 -> 4
            """);
        everyPlaceInTurn();
    }

    private static void everyPlaceInTurn() {
        BundleHall hall = SCRIPT.run("promise 17: every place is used in turn", TWO_ACTIVE);
        for (int i = 0; i < 15; i++) {
            SCRIPT.go("promise 17: every place is used in turn", hall, "register 0 0 0.0 -> " + i + "\n"
                    + "unregister 0 " + i + " -> 0\n"
                    + "count 2 -> 2\n"
                    + "event -> " + (300 + i) + "\n"
                    + "event -> " + (400 + i) + "\n"
                    + "event -> ISE");
        }
    }

    private static void eventsOfServicesModuloHundred() {
        BundleHall hall = SCRIPT.run("promise 17: SERVICE number modulo 100", TWO_ACTIVE);
        for (int i = 0; i < 98; i++) {
            SCRIPT.go("promise 17: SERVICE number modulo 100", hall, "register 0 0 0.0 -> " + i + "\n"
                    + "unregister 0 " + i + " -> 0");
        }
        for (int i = 0; i < 5; i++) {
            SCRIPT.go("promise 17: SERVICE number modulo 100", hall,
                    "event -> " + (300 + i) + "\nevent -> " + (400 + i));
        }
        SCRIPT.go("promise 17: SERVICE number modulo 100", hall, """
            register 0 0 0.0 -> 98
            register 0 0 0.0 -> 99
            register 0 0 0.0 -> 100
            register 0 0 0.0 -> 101
            event -> 398
            event -> 399
            event -> 300
            event -> 301
            # the number itself goes on
            unregister 0 0 -> UOE
            unregister 0 1 -> UOE
            get 1 0 -> 98
            unregister 0 99 -> 0
            unregister 0 100 -> 0
            unregister 0 101 -> 0
            stop 0 -> 1
            event -> 499
            event -> 400
            event -> 401
            event -> 498
            event -> 200
            event -> ISE
            """);
    }

    private static void aboutNone() {
        SCRIPT.run("promise 18: all 0, or -1, for NONE", """
            about 0 -1 -> IAE
            about 0 8 -> IAE
            about -1 0 -> IAE
            about 8 0 -> IAE
            about 0 0 -> 0
            about 0 7 -> -1
            about 7 0 -> 0
            about 7 4 -> 0
            about 7 5 -> -1
            about 7 7 -> -1
            """);
        SCRIPT.run("promise 18: for NONE again", """
            install 7 0 1 2 -> 1
            export 7 0 0 -> 1
            need 7 0 0 9 -> 1
            start 7 -> 1
            about 7 0 -> 3
            about 7 1 -> 1
            about 7 2 -> 1
            about 7 3 -> 1
            about 7 4 -> 1
            about 7 5 -> 7
            uninstall 7 -> 0
            about 7 0 -> 0
            about 7 1 -> 0
            about 7 2 -> 0
            about 7 3 -> 0
            about 7 4 -> 0
            about 7 5 -> -1
            """);
    }

    private static void aboutEachState() {
        SCRIPT.run("promise 18: 0 NONE, 1 INSTALLED, 2 RESOLVED, 3 ACTIVE", """
            about 0 0 -> 0
            install 0 0 1 0 -> 1
            about 0 0 -> 1
            resolve 0 -> 1
            about 0 0 -> 2
            start 0 -> 1
            about 0 0 -> 3
            stop 0 -> 0
            about 0 0 -> 2
            update 0 -> 0
            about 0 0 -> 1
            uninstall 0 -> 0
            about 0 0 -> 0
            """);
        SCRIPT.run("promise 18: SERVICES, EXPORTS, IMPORTS of this BUNDLE", TWO_ACTIVE + """
            install 2 2 1 0 -> 3
            export 2 0 0 -> 1
            export 2 1 0 -> 2
            export 2 2 0 -> 3
            need 2 0 0 9 -> 1
            need 2 3 0 9 optional -> 2
            about 2 3 -> 3
            about 2 4 -> 2
            about 0 3 -> 0
            about 0 4 -> 0
            register 0 0 0.0 -> 0
            register 0 3 0.0 -> 1
            register 1 0 0.0 -> 2
            about 0 2 -> 2
            about 1 2 -> 1
            about 2 2 -> 0
            """);
    }

    private static void aboutWires() {
        SCRIPT.run("promise 18: the WIRE of IMPORT i 0 .. 2", """
            install 0 0 1 0 -> 1
            export 0 0 0 -> 1
            install 7 1 1 0 -> 2
            export 7 1 0 -> 1
            install 3 3 1 0 -> 3
            export 3 2 0 -> 1
            need 3 1 0 9 -> 1
            need 3 0 0 9 -> 2
            need 3 2 0 9 -> 3
            # INSTALLED: without WIRES
            about 3 5 -> -1
            about 3 6 -> -1
            about 3 7 -> -1
            resolve 3 -> 3
            about 3 5 -> 7
            about 3 6 -> 0
            about 3 7 -> 3
            # plus 100 if that is OLD
            uninstall 7 -> 1
            about 3 5 -> 107
            about 3 6 -> 0
            update 0 -> 1
            about 3 6 -> 100
            about 3 7 -> 3
            """);
        SCRIPT.run("promise 18: -1 without a WIRE, or without an IMPORT", """
            install 0 0 1 0 -> 1
            need 0 0 0 9 optional -> 1
            resolve 0 -> 1
            about 0 5 -> -1
            about 0 6 -> -1
            about 0 7 -> -1
            """);
    }

    private static void countBeforeAndAfter() {
        SCRIPT.run("promise 19: what 0 .. 5", """
            count -1 -> IAE
            count 6 -> IAE
            count 0 -> 1
            count 1 -> 0
            count 2 -> 0
            count 3 -> 0
            count 4 -> 0
            count 5 -> 0
            level 5 -> 0
            count 0 -> 5
            """);
        SCRIPT.run("promise 19: SERVICES and EVENTS of all", TWO_ACTIVE + """
            register 0 0 0.0 -> 0
            register 1 3 0.0 -> 1
            count 1 -> 2
            count 2 -> 2
            stop 0 -> 1
            count 1 -> 1
            count 2 -> 4
            count 3 -> 0
            """);
    }

    private static void countOfTheLatestResolving() {
        SCRIPT.run("promise 19: 0 before", """
            count 4 -> 0
            count 5 -> 0
            install 0 0 2 0 -> 1
            export 0 0 0 -> 1
            need 0 0 0 9 -> 1
            # no RESOLVING: it is above the LEVEL, or out of range, or NONE
            start 0 -> 0
            resolve 8 -> IAE
            resolve 1 -> NSE
            count 4 -> 0
            count 5 -> 0
            resolve 0 -> 1
            count 4 -> 1
            count 5 -> 1
            """);
        SCRIPT.run("promise 19: 0 if it failed, the TRIES stay counted", """
            install 0 0 1 0 -> 1
            export 0 0 0 -> 1
            resolve 0 -> 1
            count 4 -> 0
            count 5 -> 1
            install 1 1 1 0 -> 2
            need 1 0 0 9 -> 1
            need 1 1 0 9 -> 2
            resolve 1 -> ISE
            count 4 -> 1
            count 5 -> 0
            # a NAME that is taken: no TRY
            install 2 0 1 0 -> 3
            need 2 0 0 9 -> 1
            resolve 2 -> ISE
            count 4 -> 0
            count 5 -> 0
            # what is RESOLVED is no RESOLVING, nor is a call that is refused before it
            resolve 1 -> ISE
            resolve 0 -> 0
            start 0 -> 1
            resolve 9 -> IAE
            start 3 -> NSE
            count 4 -> 1
            """);
        SCRIPT.run("promise 19: RESOLVING by start, by level and by refresh", """
            install 0 0 1 0 -> 1
            export 0 0 0 -> 1
            export 0 1 0 -> 2
            export 0 2 0 -> 3
            install 1 1 1 1 -> 2
            need 1 0 0 9 -> 1
            start 1 -> UOE
            count 4 -> 1
            count 5 -> 2
            install 2 2 2 0 -> 3
            need 2 0 0 9 -> 1
            need 2 1 0 9 -> 2
            start 2 -> 0
            count 4 -> 1
            level 2 -> 1
            count 4 -> 2
            count 5 -> 1
            install 3 3 1 0 -> 4
            start 3 -> 1
            count 4 -> 0
            stop 2 -> 0
            stop 1 -> 0
            start 2 -> 1
            update 0 -> 3
            export 0 0 0 -> 1
            export 0 1 0 -> 2
            refresh -> 2
            count 4 -> 2
            count 5 -> 2
            """);
    }

    private static void fiveHundredAndTwelveCalls() {
        String title = "the 512th call is answered as the first";
        BundleHall gets = SCRIPT.run(title, """
            install 0 0 1 2 -> 1
            start 0 -> 1
            """);
        for (int i = 3; i < 512; i++) {
            SCRIPT.go(title, gets, "get 0 0 -> 0");
        }
        SCRIPT.go(title, gets, "unregister 0 0 -> 509");
        BundleHall updates = SCRIPT.run(title, """
            install 0 0 1 0 -> 1
            export 0 0 0 -> 1
            install 7 1 1 0 -> 2
            need 7 0 0 9 -> 1
            resolve 7 -> 2
            """);
        for (int i = 5; i < 511; i++) {
            SCRIPT.go(title, updates, "update 0 -> 1");
        }
        SCRIPT.go(title, updates, "about 7 5 -> 100");
        BundleHall lost = SCRIPT.run(title, "install 7 5 1 0 -> 1");
        for (int i = 1; i < 511; i += 2) {
            SCRIPT.go(title, lost, "start 7 -> 1\nstop 7 -> 0");
        }
        SCRIPT.go(title, lost, "count 3 -> 500");
    }
}
