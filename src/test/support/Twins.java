/**
 * Two objects with the same past, of which only one is asked something: after that both are asked
 * for all that shows, and must answer alike.
 */
final class Twins {
    private static final int MOST_CALLS = 512;
    private static final int SERVICES_ASKED = 22;

    private final Script script;
    private BundleHall one;
    private BundleHall other;
    private String title;
    private int calls;

    Twins(Script script) {
        this.script = script;
    }

    /** Each line of refused is a call that throws, and that must leave all as it was. */
    void unchanged(String name, String past, String refused) {
        for (String line : refused.strip().split("\n")) {
            if (!line.strip().startsWith("#")) {
                alike(name + " (" + line.strip() + ")", past, line, "", "");
            }
        }
    }

    /** One does forOne, the other forOther, then both do forBoth: from there on they must be alike. */
    void alike(String name, String past, String forOne, String forOther, String forBoth) {
        title = name;
        one = script.run(name, past + "\n" + forOne + "\n" + forBoth);
        other = script.run(name, past + "\n" + forOther + "\n" + forBoth);
        calls = (past + "\n" + forOne + forOther + "\n" + forBoth).split("\n").length;
        view();
        events();
        servicesGot();
        bestAndNext();
        stops();
        starts();
        // Where all places were taken, only now a new SERVICE tells the next number.
        bestAndNext();
        events();
        same("level 1");
        events();
        wires();
        if (calls > MOST_CALLS) {
            script.due(name + ": calls of one object", "" + calls, "at most " + MOST_CALLS);
        }
    }

    private String same(String call) {
        calls++;
        String want = Script.answer(other, call);
        script.due(title + ", later " + call, Script.answer(one, call), want);
        return want;
    }

    private void view() {
        for (int bundle = 0; bundle < 8; bundle++) {
            for (int what = 0; what < 8; what++) {
                same("about " + bundle + " " + what);
            }
        }
        for (int what = 0; what < 6; what++) {
            same("count " + what);
        }
        for (int kind = 0; kind < 4; kind++) {
            same("rank " + kind);
        }
    }

    private void events() {
        boolean more = true;
        for (int i = 0; more && i < 11; i++) {
            more = !same("event").equals("ISE");
        }
    }

    private boolean isActive(int bundle) {
        return same("about " + bundle + " 0").equals("3");
    }

    private void servicesGot() {
        for (int bundle = 0; bundle < 8; bundle++) {
            int asked = isActive(bundle) ? SERVICES_ASKED : 0;
            for (int service = 0; service < asked; service++) {
                boolean more = true;
                for (int i = 0; more && i < 5; i++) {
                    more = !same("giveBack " + bundle + " " + service).equals("UOE");
                }
            }
        }
    }

    private void bestAndNext() {
        for (int bundle = 0; bundle < 8; bundle++) {
            if (isActive(bundle)) {
                for (int kind = 0; kind < 4; kind++) {
                    same("get " + bundle + " " + kind);
                }
                same("register " + bundle + " 3 0.5");
                same("rank 3");
                return;
            }
        }
    }

    private void stops() {
        for (int bundle = 0; bundle < 8; bundle++) {
            same("stop " + bundle);
            events();
        }
    }

    private void starts() {
        same("level 5");
        for (int bundle = 0; bundle < 8; bundle++) {
            same("start " + bundle);
            same("count 4");
            same("count 5");
            same("about " + bundle + " 0");
        }
        for (int bundle = 0; bundle < 8; bundle++) {
            for (int what = 5; what < 8; what++) {
                same("about " + bundle + " " + what);
            }
        }
        events();
    }

    private void wires() {
        for (int bundle = 0; bundle < 8; bundle++) {
            same("update " + bundle);
        }
    }
}
