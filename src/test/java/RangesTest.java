/**
 * Every number of every call: the last that is taken and the first that is refused, on both sides,
 * whatever else is wrong with the call; and a call that is refused so leaves all as it was.
 */
public final class RangesTest {
    private static final Script SCRIPT = new Script();
    private static final Twins TWINS = new Twins(SCRIPT);

    // The promise, the call with ? for the number in question, the least and the greatest that is taken.
    private static final String[] NUMBERS = {
        "2 | install ? 5 5 4 | 0 | 7",
        "2 | install 0 ? 1 0 | 0 | 5",
        "2 | install 0 0 ? 0 | 1 | 5",
        "2 | install 0 0 1 ? | 0 | 4",
        "3 | export ? 0 0 | 0 | 7",
        "3 | export 0 ? 0 | 0 | 79",
        "3 | export 0 0 ? | 0 | 255",
        "4 | need ? 0 0 9 | 0 | 7",
        "4 | need 0 ? 0 9 | 0 | 7",
        "4 | need 0 0 ? 9 | 0 | 9",
        "4 | need 0 0 0 ? | 0 | 9",
        "4 | need 0 0 ? 9 optional | 0 | 9",
        "4 | need 0 0 0 ? optional | 0 | 9",
        "5 | resolve ? | 0 | 7",
        "6 | start ? | 0 | 7",
        "7 | stop ? | 0 | 7",
        "8 | level ? | 1 | 5",
        "9 | uninstall ? | 0 | 7",
        "10 | update ? | 0 | 7",
        "12 | register ? 0 0.0 | 0 | 7",
        "12 | register 0 ? 0.0 | 0 | 3",
        "13 | get ? 0 | 0 | 7",
        "13 | get 0 ? | 0 | 3",
        "14 | giveBack ? 0 | 0 | 7",
        "14 | giveBack 0 ? | 0 | 2147483647",
        "15 | unregister ? 0 | 0 | 7",
        "15 | unregister 0 ? | 0 | 2147483647",
        "16 | rank ? | 0 | 3",
        "18 | about ? 0 | 0 | 7",
        "18 | about 0 ? | 0 | 7",
        "19 | count ? | 0 | 5",
    };

    private static final String[] RANKS_REFUSED = {
        "" + Math.nextUp(1000.0), "" + Math.nextDown(-1000.0), "1001.0", "-1001.0",
        "" + Double.MAX_VALUE, "" + -Double.MAX_VALUE, "Infinity", "-Infinity", "NaN",
    };

    private static final String[] RANKS_TAKEN = {
        "1000.0", "-1000.0", "" + Math.nextDown(1000.0), "" + Math.nextUp(-1000.0), "0.0", "-0.0",
        "" + Double.MIN_VALUE, "" + -Double.MIN_VALUE,
    };

    // In each of these, something else is wrong with many of the calls above.
    private static final String NOTHING_THERE = "";
    private static final String INSTALLED_AND_FULL = """
        install 0 0 1 0 -> 1
        export 0 0 0 -> 1
        export 0 1 0 -> 2
        export 0 2 0 -> 3
        need 0 0 0 9 -> 1
        need 0 1 0 9 -> 2
        need 0 7 0 9 -> 3
        """;
    private static final String RESOLVED_ONE = """
        install 0 0 1 1 -> 1
        export 0 0 0 -> 1
        need 0 0 0 9 -> 1
        start 0 -> UOE
        """;
    private static final String ACTIVE_ONE = """
        install 0 0 1 2 -> 1
        export 0 0 0 -> 1
        need 0 0 0 9 -> 1
        start 0 -> 1
        get 0 0 -> 0
        install 7 5 3 0 -> 2
        need 7 0 0 9 -> 1
        start 7 -> 0
        level 2 -> 0
        """;
    private static final String[] PASTS = {NOTHING_THERE, INSTALLED_AND_FULL, RESOLVED_ONE, ACTIVE_ONE};

    public static void main(String[] args) {
        for (String row : NUMBERS) {
            String[] parts = row.split("\\|");
            String title = "promise " + parts[0].trim() + ":" + parts[1];
            int least = Integer.parseInt(parts[2].trim());
            int most = Integer.parseInt(parts[3].trim());
            for (String past : PASTS) {
                checkTaken(title, past, parts[1], least);
                checkTaken(title, past, parts[1], most);
                checkRefused(title, past, parts[1], least, most);
            }
        }
        for (String past : PASTS) {
            checkRanks(past);
        }
        allNumbersWrong();
        SCRIPT.end();
    }

    private static String with(String call, int number) {
        return call.trim().replace("?", "" + number);
    }

    private static void checkTaken(String title, String past, String call, int number) {
        BundleHall hall = SCRIPT.run(title, past);
        String answer = Script.answer(hall, with(call, number));
        SCRIPT.due(title + " takes " + number, "" + answer.equals("IAE"), "false");
    }

    private static void checkRefused(String title, String past, String call, int least, int most) {
        TWINS.unchanged(title, past, with(call, least - 1) + " -> IAE");
        SCRIPT.run(title, past + with(call, Integer.MIN_VALUE) + " -> IAE");
        if (most < Integer.MAX_VALUE) {
            TWINS.unchanged(title, past, with(call, most + 1) + " -> IAE");
            SCRIPT.run(title, past + with(call, Integer.MAX_VALUE) + " -> IAE");
        }
    }

    private static void checkRanks(String past) {
        for (String rank : RANKS_REFUSED) {
            TWINS.unchanged("promise 12: rank", past, "register 0 0 " + rank + " -> IAE");
        }
        for (String rank : RANKS_TAKEN) {
            BundleHall hall = SCRIPT.run("promise 12: rank", past);
            String answer = Script.answer(hall, "register 0 0 " + rank);
            SCRIPT.due("promise 12: takes rank " + rank, "" + answer.equals("IAE"), "false");
        }
    }

    private static void allNumbersWrong() {
        TWINS.unchanged("all numbers are out of range", ACTIVE_ONE, """
            install -1 -1 0 -1 -> IAE
            install 8 6 6 5 -> IAE
            export -1 -1 -1 -> IAE
            export 8 80 256 -> IAE
            need -1 -1 -1 -1 -> IAE
            need 8 8 10 10 -> IAE
            register -1 -1 -1000.5 -> IAE
            register 8 4 1000.5 -> IAE
            get -1 -1 -> IAE
            get 8 4 -> IAE
            giveBack -1 -1 -> IAE
            unregister -1 -1 -> IAE
            about -1 -1 -> IAE
            about 8 8 -> IAE
            """);
    }
}
