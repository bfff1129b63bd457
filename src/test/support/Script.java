import java.util.NoSuchElementException;

/**
 * Runs of calls on new objects, written as lines "call numbers -> answer", where the answer is a
 * number or the short name of an exception: IAE, NSE, ISE, UOE or AE.
 */
final class Script {
    private int wrong;
    private int calls;

    /** What one call on the hall answers, as text. */
    static String answer(BundleHall hall, String call) {
        String[] words = call.trim().split("\\s+");
        try {
            return switch (words[0]) {
                case "install" -> "" + hall.install(at(words, 1), at(words, 2), at(words, 3), at(words, 4));
                case "export" -> "" + hall.export(at(words, 1), at(words, 2), at(words, 3));
                case "need" -> "" + hall.need(at(words, 1), at(words, 2), at(words, 3), at(words, 4),
                        words.length > 5 && words[5].equals("optional"));
                case "resolve" -> "" + hall.resolve(at(words, 1));
                case "start" -> "" + hall.start(at(words, 1));
                case "stop" -> "" + hall.stop(at(words, 1));
                case "level" -> "" + hall.level(at(words, 1));
                case "uninstall" -> "" + hall.uninstall(at(words, 1));
                case "update" -> "" + hall.update(at(words, 1));
                case "refresh" -> "" + hall.refresh();
                case "register" -> "" + hall.register(at(words, 1), at(words, 2), Double.parseDouble(words[3]));
                case "get" -> "" + hall.get(at(words, 1), at(words, 2));
                case "giveBack" -> "" + hall.giveBack(at(words, 1), at(words, 2));
                case "unregister" -> "" + hall.unregister(at(words, 1), at(words, 2));
                case "rank" -> "" + hall.rank(at(words, 1));
                case "event" -> "" + hall.event();
                case "about" -> "" + hall.about(at(words, 1), at(words, 2));
                case "count" -> "" + hall.count(at(words, 1));
                default -> throw new Error("no such call: " + call);
            };
        } catch (RuntimeException thrown) {
            return shortName(thrown);
        }
    }

    static String shortName(RuntimeException thrown) {
        Class<?> kind = thrown.getClass();
        if (kind == IllegalArgumentException.class) {
            return "IAE";
        }
        if (kind == NoSuchElementException.class) {
            return "NSE";
        }
        if (kind == IllegalStateException.class) {
            return "ISE";
        }
        if (kind == UnsupportedOperationException.class) {
            return "UOE";
        }
        return kind == ArithmeticException.class ? "AE" : kind.getName();
    }

    /** One run on a new object. An empty line, or one that begins with #, says nothing. */
    BundleHall run(String title, String lines) {
        BundleHall hall = new BundleHall();
        go(title, hall, lines);
        return hall;
    }

    void go(String title, BundleHall hall, String lines) {
        for (String line : lines.split("\n")) {
            String text = line.trim();
            if (!text.isEmpty() && !text.startsWith("#")) {
                String[] sides = text.split("->");
                due(title + ": " + sides[0].trim(), answer(hall, sides[0]), sides[1].trim());
            }
        }
    }

    void due(String what, String got, String want) {
        calls++;
        if (!got.equals(want)) {
            wrong++;
            System.out.println(what + " answered " + got + ", due is " + want);
        }
    }

    void end() {
        System.out.println(wrong == 0 ? calls + " answers are as due" : wrong + " answers are not as due");
        if (wrong != 0) {
            System.exit(1);
        }
    }

    private static int at(String[] words, int place) {
        return Integer.parseInt(words[place]);
    }
}
