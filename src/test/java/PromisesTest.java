/** Each promise by hand: ordinary inputs, the edges that the document names, and wrong inputs. */
public final class PromisesTest {
    private static final Script SCRIPT = new Script();

    public static void main(String[] args) {
        newObject();
        install();
        export();
        need();
        resolve();
        start();
        activators();
        stop();
        levelRises();
        levelFalls();
        uninstall();
        update();
        oldWires();
        refresh();
        refreshStartsAgain();
        register();
        serviceLimit();
        get();
        giveBack();
        unregister();
        rank();
        event();
        serviceNumbersInEvents();
        about();
        count();
        orderOfWhatIsThrown();
        objectsAreApart();
        SCRIPT.end();
    }

    private static void newObject() {
        BundleHall hall = SCRIPT.run("promise 1", """
            event -> ISE
            count 0 -> 1
            count 1 -> 0
            count 2 -> 0
            count 3 -> 0
            count 4 -> 0
            count 5 -> 0
            refresh -> 0
            rank 0 -> AE
            """);
        for (int bundle = 0; bundle < 8; bundle++) {
            for (int what = 0; what < 8; what++) {
                SCRIPT.due("promise 1: about " + bundle + " " + what, "" + hall.about(bundle, what),
                        what < 5 ? "0" : "-1");
            }
        }
    }

    private static void install() {
        SCRIPT.run("promise 2", """
            install 7 5 5 4 -> 1
            install 7 5 5 4 -> ISE
            install 0 0 1 0 -> 2
            # a NAME may be there twice
            install 1 0 1 0 -> 3
            about 0 0 -> 1
            about 0 1 -> 0
            about 0 3 -> 0
            about 0 4 -> 0
            install -1 0 1 0 -> IAE
            install 8 0 1 0 -> IAE
            install 2 -1 1 0 -> IAE
            install 2 6 1 0 -> IAE
            install 2 0 0 0 -> IAE
            install 2 0 6 0 -> IAE
            install 2 0 1 -1 -> IAE
            install 2 0 1 5 -> IAE
            # a number out of range comes before a bundle that is there
            install 7 6 1 0 -> IAE
            about 2 0 -> 0
            uninstall 7 -> 0
            install 7 1 1 0 -> 3
            """);
        SCRIPT.run("promise 2, once more after uninstall", """
            install 0 0 1 0 -> 1
            export 0 0 0 -> 1
            need 0 0 0 9 -> 1
            start 0 -> 1
            uninstall 0 -> 0
            install 0 0 1 0 -> 1
            about 0 0 -> 1
            about 0 1 -> 0
            about 0 3 -> 0
            about 0 4 -> 0
            about 0 5 -> -1
            export 0 0 0 -> 1
            need 0 0 0 9 -> 1
            """);
    }

    private static void export() {
        SCRIPT.run("promise 3", """
            export 0 0 0 -> NSE
            install 0 0 1 0 -> 1
            export 0 -1 0 -> IAE
            export 0 80 0 -> IAE
            export 0 0 -1 -> IAE
            export 0 0 256 -> IAE
            export 8 0 0 -> IAE
            export 0 79 255 -> 1
            # package 7 again, in another version
            export 0 7 0 -> UOE
            export 0 0 0 -> 2
            export 0 1 0 -> 3
            export 0 2 0 -> UOE
            about 0 3 -> 3
            # a bundle that exports a package may import it too
            need 0 7 9 9 -> 1
            resolve 0 -> 1
            export 0 3 0 -> ISE
            export 0 7 0 -> ISE
            export 0 80 0 -> IAE
            start 0 -> 1
            export 0 3 0 -> ISE
            """);
    }

    private static void need() {
        SCRIPT.run("promise 4", """
            need 0 0 0 9 -> NSE
            install 0 0 1 0 -> 1
            need 8 0 0 9 -> IAE
            need 0 -1 0 9 -> IAE
            need 0 8 0 9 -> IAE
            need 0 0 -1 9 -> IAE
            need 0 0 10 9 -> IAE
            need 0 0 0 -1 -> IAE
            need 0 0 0 10 -> IAE
            need 0 7 9 9 optional -> 1
            need 0 7 0 9 -> UOE
            # nothing lies between 9 and 0, but both are in range
            need 0 0 9 0 optional -> 2
            need 0 1 0 0 optional -> 3
            need 0 2 0 9 -> UOE
            about 0 4 -> 3
            resolve 0 -> 1
            need 0 3 0 9 -> ISE
            need 0 3 0 10 -> IAE
            """);
    }

    private static void resolve() {
        SCRIPT.run("promise 5", """
            resolve -1 -> IAE
            resolve 8 -> IAE
            resolve 0 -> NSE
            install 0 0 1 0 -> 1
            install 1 1 1 0 -> 2
            install 2 2 1 0 -> 3
            export 0 0 0 -> 1
            export 1 1 0 -> 1
            need 1 0 0 0 -> 1
            need 2 1 0 0 -> 1
            resolve 2 -> 3
            about 0 0 -> 2
            about 1 0 -> 2
            about 2 0 -> 2
            about 1 5 -> 0
            about 2 5 -> 1
            resolve 2 -> 0
            resolve 0 -> 0
            # what is RESOLVED already is no RESOLVING
            count 4 -> 2
            count 5 -> 3
            event -> ISE
            start 2 -> 1
            resolve 2 -> 0
            install 3 3 1 0 -> 4
            need 3 2 0 9 -> 1
            resolve 3 -> ISE
            about 3 0 -> 1
            count 5 -> 0
            """);
    }

    private static void start() {
        SCRIPT.run("promise 6", """
            start -1 -> IAE
            start 8 -> IAE
            start 0 -> NSE
            install 0 0 1 0 -> 1
            start 0 -> 1
            about 0 0 -> 3
            about 0 1 -> 1
            start 0 -> 1
            event -> 100
            event -> ISE
            # above the FRAMEWORK's LEVEL: WANTED, and nothing more
            install 1 1 2 1 -> 2
            start 1 -> 0
            about 1 0 -> 1
            about 1 1 -> 1
            # WANTED also if it can't be RESOLVED
            install 2 2 1 0 -> 3
            need 2 0 0 9 -> 1
            start 2 -> ISE
            about 2 0 -> 1
            about 2 1 -> 1
            event -> ISE
            """);
        SCRIPT.run("promise 6, RESOLVED ones stay so", """
            install 0 0 1 0 -> 1
            export 0 0 0 -> 1
            install 1 1 1 1 -> 2
            need 1 0 0 9 -> 1
            start 1 -> UOE
            about 0 0 -> 2
            about 1 0 -> 2
            about 1 1 -> 1
            about 1 5 -> 0
            count 5 -> 2
            """);
    }

    private static void activators() {
        SCRIPT.run("activators 2 and 3", """
            install 5 0 1 2 -> 1
            install 6 1 1 2 -> 2
            install 7 2 1 3 -> 3
            start 7 -> UOE
            about 7 0 -> 2
            start 6 -> 1
            start 5 -> 1
            start 7 -> 1
            event -> 300
            event -> 106
            event -> 301
            event -> 105
            event -> 107
            rank 0 -> 5.5
            # the best is that of bundle 6, by its number as RANK
            giveBack 7 1 -> UOE
            giveBack 7 0 -> 0
            """);
        SCRIPT.run("activator 4", """
            install 0 0 1 4 -> 1
            start 0 -> 1
            stop 0 -> 0
            start 0 -> UOE
            about 0 0 -> 2
            about 0 1 -> 1
            update 0 -> 0
            start 0 -> 1
            stop 0 -> 0
            uninstall 0 -> 0
            install 0 0 1 4 -> 1
            start 0 -> 1
            """);
        SCRIPT.run("activator 4 after a start that came not so far", """
            install 0 0 1 4 -> 1
            need 0 0 0 9 -> 1
            start 0 -> ISE
            install 1 1 1 0 -> 2
            export 1 0 0 -> 1
            start 0 -> 1
            """);
    }

    private static void stop() {
        SCRIPT.run("promise 7", """
            stop -1 -> IAE
            stop 8 -> IAE
            stop 0 -> NSE
            install 0 0 1 2 -> 1
            stop 0 -> 0
            about 0 0 -> 1
            start 0 -> 1
            install 1 1 1 2 -> 2
            start 1 -> 1
            register 0 3 1.0 -> 2
            get 0 0 -> 1
            get 0 0 -> 1
            get 1 3 -> 2
            event -> 300
            event -> 100
            event -> 301
            event -> 101
            event -> 302
            stop 0 -> 2
            about 0 0 -> 2
            about 0 1 -> 0
            about 0 2 -> 0
            event -> 400
            event -> 402
            event -> 200
            event -> ISE
            # what it GOT is given back, what others GOT of it is gone
            giveBack 0 1 -> UOE
            giveBack 1 2 -> UOE
            unregister 1 1 -> 0
            stop 0 -> 0
            event -> 401
            event -> ISE
            """);
        SCRIPT.run("promise 7, WANTED but not ACTIVE", """
            install 0 0 3 0 -> 1
            start 0 -> 0
            stop 0 -> 0
            about 0 1 -> 0
            level 5 -> 0
            about 0 0 -> 1
            """);
    }

    private static void levelRises() {
        SCRIPT.run("promise 8, rising", """
            level 0 -> IAE
            level 6 -> IAE
            count 0 -> 1
            install 0 0 3 0 -> 1
            install 1 1 2 0 -> 2
            install 2 2 3 0 -> 3
            install 3 3 4 0 -> 4
            install 4 4 2 0 -> 5
            start 2 -> 0
            start 1 -> 0
            start 0 -> 0
            start 3 -> 0
            # 4 is not WANTED
            level 3 -> 3
            count 0 -> 3
            event -> 101
            event -> 100
            event -> 102
            event -> ISE
            about 4 0 -> 1
            about 3 0 -> 1
            level 3 -> 0
            level 5 -> 1
            event -> 103
            """);
        SCRIPT.run("promise 8, rising past what is thrown", """
            install 0 0 2 1 -> 1
            install 1 1 2 0 -> 2
            need 1 7 0 9 -> 1
            install 2 2 2 0 -> 3
            install 3 3 2 3 -> 4
            install 4 4 2 2 -> 5
            start 0 -> 0
            start 1 -> 0
            start 2 -> 0
            start 3 -> 0
            start 4 -> 0
            level 2 -> 2
            about 0 0 -> 2
            about 1 0 -> 1
            about 2 0 -> 3
            about 3 0 -> 2
            about 4 0 -> 3
            # those of LEVEL 2 are not tried again while it rises from 2
            level 3 -> 0
            about 3 0 -> 2
            level 1 -> 2
            about 4 0 -> 2
            level 2 -> 2
            """);
    }

    private static void levelFalls() {
        SCRIPT.run("promise 8, falling", """
            install 0 0 3 0 -> 1
            install 1 1 2 0 -> 2
            install 2 2 3 2 -> 3
            install 3 3 1 0 -> 4
            level 5 -> 0
            start 0 -> 1
            start 1 -> 1
            start 2 -> 1
            start 3 -> 1
            event -> 100
            event -> 101
            event -> 300
            event -> 102
            event -> 103
            level 3 -> 0
            level 1 -> 3
            event -> 400
            event -> 202
            event -> 200
            event -> 201
            event -> ISE
            about 0 0 -> 2
            about 0 1 -> 1
            about 1 1 -> 1
            about 3 0 -> 3
            level 2 -> 1
            event -> 101
            event -> ISE
            """);
    }

    private static void uninstall() {
        SCRIPT.run("promise 9", """
            uninstall -1 -> IAE
            uninstall 8 -> IAE
            uninstall 0 -> NSE
            install 0 0 1 2 -> 1
            export 0 0 0 -> 1
            export 0 1 0 -> 2
            need 0 0 0 9 -> 1
            install 1 1 1 0 -> 2
            need 1 0 0 9 -> 1
            need 1 1 0 9 optional -> 2
            install 2 2 1 0 -> 3
            need 2 1 0 9 -> 1
            start 0 -> 1
            resolve 1 -> 1
            resolve 2 -> 1
            # its own WIRE is none of others
            about 0 5 -> 0
            uninstall 0 -> 3
            event -> 300
            event -> 100
            event -> 400
            event -> 200
            event -> ISE
            about 0 0 -> 0
            about 0 1 -> 0
            about 0 3 -> 0
            about 0 4 -> 0
            about 0 5 -> -1
            about 1 5 -> 100
            about 1 6 -> 100
            about 2 5 -> 100
            count 1 -> 0
            uninstall 0 -> NSE
            uninstall 2 -> 0
            about 1 0 -> 2
            # its NAME is free, its EXPORTS are no CANDIDATES any more
            install 3 0 1 0 -> 2
            resolve 3 -> 1
            install 4 4 1 0 -> 3
            need 4 0 0 9 -> 1
            resolve 4 -> ISE
            """);
    }

    private static void update() {
        SCRIPT.run("promise 10", """
            update -1 -> IAE
            update 8 -> IAE
            update 0 -> NSE
            install 0 3 2 2 -> 1
            export 0 0 0 -> 1
            need 0 0 0 9 -> 1
            install 1 1 1 0 -> 2
            need 1 0 0 9 -> 1
            level 2 -> 0
            start 0 -> 1
            resolve 1 -> 1
            event -> 300
            event -> 100
            update 0 -> 1
            event -> 400
            event -> 200
            event -> ISE
            about 0 0 -> 1
            about 0 1 -> 1
            about 0 3 -> 0
            about 0 4 -> 0
            about 0 5 -> -1
            about 1 5 -> 100
            # NAME 3, LEVEL 2 and ACTIVATOR 2 have stayed
            level 1 -> 0
            start 0 -> 0
            level 2 -> 1
            about 0 2 -> 1
            install 2 3 1 0 -> 3
            resolve 2 -> ISE
            """);
        SCRIPT.run("promise 10, not WANTED stays so", """
            install 0 0 1 0 -> 1
            start 0 -> 1
            stop 0 -> 0
            update 0 -> 0
            about 0 1 -> 0
            update 0 -> 0
            about 0 0 -> 1
            """);
    }

    private static void oldWires() {
        SCRIPT.run("OLD PORTS stay OLD", """
            install 0 0 1 0 -> 1
            export 0 0 0 -> 1
            install 1 1 1 0 -> 2
            need 1 0 0 9 -> 1
            resolve 1 -> 2
            about 1 5 -> 0
            update 0 -> 1
            about 1 5 -> 100
            export 0 0 0 -> 1
            about 1 5 -> 100
            resolve 0 -> 1
            # RESOLVED anew, but the PORT was made before
            about 1 5 -> 100
            install 2 2 1 0 -> 3
            need 2 0 0 9 -> 1
            resolve 2 -> 1
            about 2 5 -> 0
            # WIRES to its PORTS, OLD or not
            update 0 -> 2
            update 0 -> 2
            uninstall 0 -> 2
            install 0 0 1 0 -> 3
            about 1 5 -> 100
            resolve 0 -> 1
            about 2 5 -> 100
            refresh -> 2
            about 1 5 -> -1
            about 1 0 -> 1
            """);
    }

    private static void refresh() {
        SCRIPT.run("promise 11", """
            install 0 0 1 0 -> 1
            install 1 1 1 2 -> 2
            install 2 2 1 2 -> 3
            install 3 3 1 0 -> 4
            install 4 4 1 0 -> 5
            export 0 0 0 -> 1
            export 1 1 0 -> 1
            need 1 0 0 9 -> 1
            need 2 1 0 9 -> 1
            need 3 0 0 9 optional -> 1
            start 0 -> 1
            start 1 -> 1
            start 2 -> 1
            start 3 -> 1
            start 4 -> 1
            refresh -> 0
            event -> 100
            event -> 300
            event -> 101
            event -> 301
            event -> 102
            event -> 103
            event -> 104
            update 0 -> 2
            event -> 200
            # 1 and 3 by OLD PORTS, 2 by its WIRE to 1; 4 stands apart
            refresh -> 3
            event -> 203
            event -> 401
            event -> 202
            event -> 400
            event -> 201
            # only 3 can be RESOLVED again, its IMPORT being optional
            event -> 103
            event -> ISE
            about 0 0 -> 1
            about 1 0 -> 1
            about 2 0 -> 1
            about 1 1 -> 1
            about 2 5 -> -1
            about 3 0 -> 3
            about 3 5 -> -1
            about 4 0 -> 3
            refresh -> 0
            """);
        SCRIPT.run("promise 11, the least and the greatest number", """
            install 3 3 1 0 -> 1
            export 3 0 0 -> 1
            install 0 0 1 2 -> 2
            need 0 0 0 9 -> 1
            install 7 1 1 2 -> 3
            need 7 0 0 9 -> 1
            start 0 -> 1
            start 7 -> 1
            event -> 300
            event -> 100
            event -> 301
            event -> 107
            update 3 -> 2
            export 3 8 0 -> 1
            refresh -> 2
            event -> 401
            event -> 207
            event -> 400
            event -> 200
            event -> 302
            event -> 100
            event -> 303
            event -> 107
            event -> ISE
            about 0 5 -> 3
            """);
        SCRIPT.run("promise 11, a long chain with falling numbers", """
            install 7 0 1 0 -> 1
            install 6 1 1 0 -> 2
            install 5 2 1 0 -> 3
            install 4 3 1 0 -> 4
            install 3 4 1 0 -> 5
            install 2 5 1 0 -> 6
            export 2 2 0 -> 1
            export 3 3 0 -> 1
            export 4 4 0 -> 1
            export 5 5 0 -> 1
            export 6 6 0 -> 1
            need 3 2 0 9 -> 1
            need 4 3 0 9 -> 1
            need 5 4 0 9 -> 1
            need 6 5 0 9 -> 1
            need 7 6 0 9 -> 1
            resolve 7 -> 6
            uninstall 2 -> 1
            refresh -> 5
            about 7 0 -> 1
            """);
        SCRIPT.run("promise 11, a long chain with rising numbers", """
            install 0 0 1 0 -> 1
            install 1 1 1 0 -> 2
            install 2 2 1 0 -> 3
            install 3 3 1 0 -> 4
            install 4 4 1 0 -> 5
            install 5 5 1 0 -> 6
            export 1 1 0 -> 1
            export 2 2 0 -> 1
            export 3 3 0 -> 1
            export 4 4 0 -> 1
            export 5 5 0 -> 1
            need 0 1 0 9 -> 1
            need 1 2 0 9 -> 1
            need 2 3 0 9 -> 1
            need 3 4 0 9 -> 1
            need 4 5 0 9 -> 1
            resolve 0 -> 6
            uninstall 5 -> 1
            refresh -> 5
            about 0 0 -> 1
            """);
    }

    private static void refreshStartsAgain() {
        SCRIPT.run("promise 11, starting again", """
            level 2 -> 0
            install 0 0 1 0 -> 1
            export 0 0 0 -> 1
            install 1 1 1 0 -> 2
            need 1 0 0 9 -> 1
            install 2 2 2 4 -> 3
            need 2 0 0 9 -> 1
            install 3 3 1 0 -> 4
            need 3 0 0 9 -> 1
            install 4 4 2 0 -> 5
            need 4 0 0 9 -> 1
            start 1 -> 1
            start 2 -> 1
            start 3 -> 1
            stop 3 -> 0
            start 4 -> 1
            event -> 101
            event -> 102
            event -> 103
            event -> 203
            event -> 104
            update 0 -> 4
            export 0 8 0 -> 1
            refresh -> 4
            event -> 204
            event -> 202
            event -> 201
            event -> 101
            # 2 has started before, though it was INSTALLED by refresh
            event -> 104
            event -> ISE
            about 0 0 -> 2
            about 1 5 -> 0
            about 2 0 -> 2
            about 2 1 -> 1
            about 3 0 -> 1
            # the FRAMEWORK's LEVEL is below that of 4
            level 1 -> 1
            event -> 204
            update 0 -> 3
            export 0 0 0 -> 1
            refresh -> 3
            about 1 0 -> 3
            about 4 0 -> 1
            about 4 1 -> 1
            """);
    }

    private static void register() {
        SCRIPT.run("promise 12", """
            register 0 0 0.0 -> NSE
            register 8 0 0.0 -> IAE
            install 0 0 1 0 -> 1
            register 0 -1 0.0 -> IAE
            register 0 4 0.0 -> IAE
            register 0 0 1000.1 -> IAE
            register 0 0 -1000.1 -> IAE
            register 0 0 NaN -> IAE
            register 0 0 Infinity -> IAE
            register 0 0 -Infinity -> IAE
            register 0 0 0.0 -> ISE
            resolve 0 -> 1
            register 0 0 0.0 -> ISE
            start 0 -> 1
            register 0 0 1000.0 -> 0
            register 0 3 -1000.0 -> 1
            count 1 -> 2
            about 0 2 -> 2
            event -> 100
            event -> 300
            event -> 301
            unregister 0 1 -> 0
            # a number is not used again
            register 0 3 0.5 -> 2
            stop 0 -> 2
            register 0 0 0.0 -> ISE
            """);
    }

    private static void serviceLimit() {
        BundleHall hall = SCRIPT.run("promise 12, 20 at a time", """
            install 0 0 1 0 -> 1
            install 1 1 1 2 -> 2
            start 0 -> 1
            """);
        for (int i = 0; i < 20; i++) {
            SCRIPT.go("promise 12, 20 at a time", hall, "register 0 1 " + i + ".5 -> " + i);
        }
        SCRIPT.go("promise 12, 20 at a time", hall, """
            register 0 1 0.0 -> UOE
            count 1 -> 20
            start 1 -> UOE
            about 1 0 -> 2
            about 1 1 -> 1
            about 1 2 -> 0
            get 0 1 -> 19
            unregister 0 7 -> 0
            start 1 -> 1
            about 1 2 -> 1
            register 0 1 0.0 -> UOE
            unregister 1 20 -> 0
            register 0 1 0.0 -> 21
            # one without SERVICES stops while 20 are there
            get 1 1 -> 19
            stop 1 -> 0
            giveBack 1 19 -> UOE
            giveBack 0 19 -> 0
            stop 0 -> 20
            count 1 -> 0
            """);
    }

    private static void get() {
        SCRIPT.run("promise 13", """
            get 0 0 -> NSE
            get 8 0 -> IAE
            get 0 -1 -> IAE
            get 0 4 -> IAE
            install 0 0 1 0 -> 1
            install 1 1 1 0 -> 2
            get 0 0 -> ISE
            resolve 0 -> 1
            get 0 0 -> ISE
            start 0 -> 1
            get 0 0 -> UOE
            register 0 2 -3.0 -> 0
            get 0 0 -> UOE
            get 0 2 -> 0
            register 0 2 -2.5 -> 1
            register 0 2 -2.5 -> 2
            register 0 1 9.0 -> 3
            get 0 2 -> 1
            start 1 -> 1
            get 1 2 -> 1
            get 1 2 -> 1
            get 1 1 -> 3
            unregister 0 1 -> 3
            get 1 2 -> 2
            unregister 0 0 -> 1
            stop 0 -> 2
            get 1 2 -> UOE
            """);
        SCRIPT.run("promise 13, zero below zero is the same RANK", """
            install 0 0 1 0 -> 1
            start 0 -> 1
            register 0 0 -0.0 -> 0
            register 0 0 0.0 -> 1
            get 0 0 -> 0
            """);
    }

    private static void giveBack() {
        SCRIPT.run("promise 14", """
            giveBack 8 0 -> IAE
            giveBack 0 -1 -> IAE
            giveBack 0 0 -> NSE
            install 0 0 1 0 -> 1
            giveBack 0 0 -> UOE
            giveBack 0 2147483647 -> UOE
            giveBack 0 -2147483648 -> IAE
            start 0 -> 1
            install 1 1 1 0 -> 2
            start 1 -> 1
            register 0 0 1.0 -> 0
            get 1 0 -> 0
            get 1 0 -> 0
            get 1 0 -> 0
            get 0 0 -> 0
            giveBack 1 0 -> 2
            giveBack 1 0 -> 1
            giveBack 1 0 -> 0
            giveBack 1 0 -> UOE
            giveBack 0 0 -> 0
            giveBack 0 0 -> UOE
            giveBack 1 1 -> UOE
            """);
    }

    private static void unregister() {
        SCRIPT.run("promise 15", """
            unregister 8 0 -> IAE
            unregister 0 -1 -> IAE
            unregister 0 0 -> NSE
            install 0 0 1 0 -> 1
            unregister 0 0 -> UOE
            install 1 1 1 0 -> 2
            start 0 -> 1
            start 1 -> 1
            register 0 0 1.0 -> 0
            register 1 0 0.0 -> 1
            get 0 0 -> 0
            get 1 0 -> 0
            get 1 0 -> 0
            giveBack 1 0 -> 1
            get 1 0 -> 0
            unregister 1 0 -> UOE
            unregister 0 1 -> UOE
            unregister 0 0 -> 3
            unregister 0 0 -> UOE
            event -> 100
            event -> 101
            event -> 300
            event -> 301
            event -> 400
            event -> ISE
            about 0 2 -> 0
            about 1 2 -> 1
            count 1 -> 1
            giveBack 1 0 -> UOE
            # a row that is used again knows nothing of the service before
            register 0 0 5.0 -> 2
            unregister 0 2 -> 0
            unregister 1 1 -> 0
            """);
    }

    private static void rank() {
        SCRIPT.run("promise 16", """
            rank -1 -> IAE
            rank 4 -> IAE
            rank 0 -> AE
            install 0 0 1 0 -> 1
            start 0 -> 1
            register 0 0 1.0 -> 0
            rank 0 -> 1.0
            rank 1 -> AE
            register 0 0 2.0 -> 1
            rank 0 -> 1.5
            register 0 1 100.0 -> 2
            rank 0 -> 1.5
            rank 1 -> 100.0
            register 0 0 -1000.0 -> 3
            rank 0 -> -332.3333333333333
            unregister 0 0 -> 0
            rank 0 -> -499.0
            stop 0 -> 3
            rank 0 -> AE
            """);
        SCRIPT.run("promise 16, the sum goes by rising numbers", """
            install 0 0 1 0 -> 1
            start 0 -> 1
            register 0 0 0.1 -> 0
            register 0 0 0.2 -> 1
            register 0 0 0.3 -> 2
            rank 0 -> %s
            register 0 0 0.1 -> 3
            unregister 0 0 -> 0
            rank 0 -> %s
            """.formatted("" + (0.1 + 0.2 + 0.3) / 3, "" + (0.2 + 0.3 + 0.1) / 3));
    }

    private static void event() {
        BundleHall hall = SCRIPT.run("promise 17", """
            event -> ISE
            install 0 0 1 0 -> 1
            start 0 -> 1
            stop 0 -> 0
            start 0 -> 1
            stop 0 -> 0
            start 0 -> 1
            event -> 100
            event -> 200
            event -> 100
            register 0 0 0.0 -> 0
            register 0 0 0.0 -> 1
            register 0 0 0.0 -> 2
            register 0 0 0.0 -> 3
            register 0 0 0.0 -> 4
            register 0 0 0.0 -> 5
            register 0 0 0.0 -> 6
            register 0 0 0.0 -> 7
            count 2 -> 10
            count 3 -> 0
            # the newer ones are lost, not those that are kept
            register 0 0 0.0 -> 8
            register 0 0 0.0 -> 9
            count 2 -> 10
            count 3 -> 2
            event -> 200
            count 2 -> 9
            register 0 0 0.0 -> 10
            event -> 100
            """);
        for (int i = 0; i < 8; i++) {
            SCRIPT.go("promise 17", hall, "event -> " + (300 + i));
        }
        SCRIPT.go("promise 17", hall, """
            event -> 310
            event -> ISE
            count 2 -> 0
            count 3 -> 2
            """);
    }

    private static void serviceNumbersInEvents() {
        BundleHall hall = SCRIPT.run("promise 17, modulo 100", """
            install 0 0 1 0 -> 1
            start 0 -> 1
            event -> 100
            """);
        for (int i = 0; i < 102; i++) {
            SCRIPT.go("promise 17, modulo 100", hall, "register 0 0 0.0 -> " + i + "\n"
                    + "event -> " + (300 + i % 100) + "\n"
                    + "unregister 0 " + i + " -> 0\n"
                    + "event -> " + (400 + i % 100));
        }
    }

    private static void about() {
        SCRIPT.run("promise 18", """
            about -1 0 -> IAE
            about 8 0 -> IAE
            about 0 -1 -> IAE
            about 0 8 -> IAE
            about 7 0 -> 0
            about 7 7 -> -1
            install 7 0 1 2 -> 1
            about 7 0 -> 1
            export 7 0 0 -> 1
            export 7 1 0 -> 2
            need 7 2 0 9 optional -> 1
            need 7 3 0 9 optional -> 2
            need 7 1 0 9 -> 3
            about 7 3 -> 2
            about 7 4 -> 3
            about 7 7 -> -1
            resolve 7 -> 1
            about 7 0 -> 2
            about 7 1 -> 0
            about 7 2 -> 0
            about 7 5 -> -1
            about 7 6 -> -1
            about 7 7 -> 7
            start 7 -> 1
            about 7 0 -> 3
            about 7 1 -> 1
            about 7 2 -> 1
            """);
    }

    private static void count() {
        SCRIPT.run("promise 19", """
            count -1 -> IAE
            count 6 -> IAE
            level 4 -> 0
            count 0 -> 4
            install 0 0 1 2 -> 1
            install 1 1 1 0 -> 2
            need 0 0 0 9 -> 1
            export 1 0 0 -> 1
            start 0 -> 1
            count 1 -> 1
            count 2 -> 2
            count 3 -> 0
            count 4 -> 1
            count 5 -> 2
            install 2 2 1 0 -> 3
            resolve 2 -> 1
            # a RESOLVING without TASKS
            count 4 -> 0
            count 5 -> 1
            install 3 3 1 0 -> 4
            need 3 0 0 9 -> 1
            need 3 7 0 9 -> 2
            start 3 -> ISE
            count 4 -> 1
            count 5 -> 0
            # a NAME that is there: no TRY at all
            install 4 0 1 0 -> 5
            need 4 0 0 9 -> 1
            resolve 4 -> ISE
            count 4 -> 0
            count 5 -> 0
            """);
    }

    private static void orderOfWhatIsThrown() {
        SCRIPT.run("order of what is thrown", """
            export 0 80 0 -> IAE
            need 0 8 0 0 -> IAE
            register 0 4 0.0 -> IAE
            register 0 0 2000.0 -> IAE
            get 0 4 -> IAE
            giveBack 0 -1 -> IAE
            unregister 0 -1 -> IAE
            install 0 0 1 0 -> 1
            export 0 0 0 -> 1
            need 0 0 0 9 -> 1
            resolve 0 -> 1
            # not INSTALLED comes before a PACKAGE that is there
            export 0 0 0 -> ISE
            need 0 0 0 9 -> ISE
            # not ACTIVE comes before no SERVICE
            get 0 0 -> ISE
            """);
    }

    private static void objectsAreApart() {
        BundleHall one = new BundleHall();
        BundleHall other = new BundleHall();
        SCRIPT.go("one of two objects", one, """
            install 0 0 1 2 -> 1
            start 0 -> 1
            level 3 -> 0
            """);
        SCRIPT.go("the other object", other, """
            about 0 0 -> 0
            count 0 -> 1
            count 1 -> 0
            event -> ISE
            """);
    }
}
