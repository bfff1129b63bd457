import java.util.ArrayList;
import java.util.Arrays;
import java.util.Comparator;
import java.util.HashMap;
import java.util.HashSet;
import java.util.List;
import java.util.Map;
import java.util.NoSuchElementException;
import java.util.Set;
import java.util.TreeMap;
import java.util.TreeSet;

/**
 * A second program for the same document, in other ways than the class: exports, ports and
 * choices are objects of their own, a try copies all that was chosen, and time tells what is old.
 */
final class Model {
    record Export(int bundle, int pack, int version, int uses) {
    }

    static final class Port {
        final Export export;
        final int madeAt;

        Port(Export export, int madeAt) {
            this.export = export;
            this.madeAt = madeAt;
        }
    }

    static final class Import {
        int pack;
        int low;
        int high;
        boolean optional;
        Port wire;
    }

    static final class Bundle {
        int number;
        String state = "NONE";
        int name;
        int level;
        int activator;
        boolean wanted;
        boolean startedBefore;
        int bornAt;
        List<Export> exports = new ArrayList<>();
        List<Import> imports = new ArrayList<>();
        List<Port> ports = new ArrayList<>();

        boolean settled() {
            return state.equals("RESOLVED") || state.equals("ACTIVE");
        }
    }

    static final class Service {
        int number;
        int owner;
        int kind;
        double rank;
        int[] got = new int[8];
    }

    static final class Chosen {
        final Map<Import, Export> exports = new HashMap<>();
        final List<Import> tasks = new ArrayList<>();
        final Set<Integer> takenIn = new TreeSet<>();

        Chosen copy() {
            Chosen copy = new Chosen();
            copy.exports.putAll(exports);
            copy.tasks.addAll(tasks);
            copy.takenIn.addAll(takenIn);
            return copy;
        }
    }

    private final Bundle[] bundles = new Bundle[8];
    private final TreeMap<Integer, Service> services = new TreeMap<>();
    private final List<Integer> events = new ArrayList<>();
    private int lost;
    private int nextService;
    private int level = 1;
    private int time;
    private int tries;
    private int tookIn;

    Model() {
        for (int i = 0; i < 8; i++) {
            bundles[i] = new Bundle();
            bundles[i].number = i;
        }
    }

    String answer(String call) {
        String[] words = call.trim().split("\\s+");
        try {
            time++;
            return words[0].equals("register")
                    ? "" + register(number(words[1]), number(words[2]), Double.parseDouble(words[3]))
                    : words[0].equals("rank") ? "" + rank(number(words[1])) : "" + call(words);
        } catch (RuntimeException thrown) {
            return Script.shortName(thrown);
        }
    }

    private static int number(String word) {
        return Integer.parseInt(word);
    }

    private int call(String[] words) {
        int[] n = new int[6];
        for (int i = 1; i < words.length; i++) {
            n[i] = words[i].equals("optional") ? 1 : number(words[i]);
        }
        switch (words[0]) {
            case "install": return install(n[1], n[2], n[3], n[4]);
            case "export": return export(n[1], n[2], n[3]);
            case "need": return need(n[1], n[2], n[3], n[4], n[5] == 1);
            case "resolve": return resolve(n[1]);
            case "start": return start(n[1]);
            case "stop": return stop(n[1]);
            case "level": return level(n[1]);
            case "uninstall": return uninstall(n[1]);
            case "update": return update(n[1]);
            case "refresh": return refresh();
            case "get": return get(n[1], n[2]);
            case "giveBack": return giveBack(n[1], n[2]);
            case "unregister": return unregister(n[1], n[2]);
            case "event": return event();
            case "about": return about(n[1], n[2]);
            case "count": return count(n[1]);
            default: throw new Error("no such call");
        }
    }

    private static void range(int value, int low, int high) {
        if (value < low || value > high) {
            throw new IllegalArgumentException();
        }
    }

    private Bundle there(int bundle) {
        if (bundles[bundle].state.equals("NONE")) {
            throw new NoSuchElementException();
        }
        return bundles[bundle];
    }

    private int install(int bundle, int name, int itsLevel, int activator) {
        range(bundle, 0, 7);
        range(name, 0, 5);
        range(itsLevel, 1, 5);
        range(activator, 0, 4);
        if (!bundles[bundle].state.equals("NONE")) {
            throw new IllegalStateException();
        }
        Bundle b = new Bundle();
        b.number = bundle;
        b.state = "INSTALLED";
        b.name = name;
        b.level = itsLevel;
        b.activator = activator;
        b.bornAt = time;
        bundles[bundle] = b;
        return (int) Arrays.stream(bundles).filter(x -> !x.state.equals("NONE")).count();
    }

    private int export(int bundle, int what, int uses) {
        range(bundle, 0, 7);
        range(what, 0, 79);
        range(uses, 0, 255);
        Bundle b = there(bundle);
        if (!b.state.equals("INSTALLED")) {
            throw new IllegalStateException();
        }
        if (b.exports.size() == 3 || b.exports.stream().anyMatch(e -> e.pack() == what % 8)) {
            throw new UnsupportedOperationException();
        }
        b.exports.add(new Export(bundle, what % 8, what / 8, uses));
        return b.exports.size();
    }

    private int need(int bundle, int pack, int low, int high, boolean optional) {
        range(bundle, 0, 7);
        range(pack, 0, 7);
        range(low, 0, 9);
        range(high, 0, 9);
        Bundle b = there(bundle);
        if (!b.state.equals("INSTALLED")) {
            throw new IllegalStateException();
        }
        if (b.imports.size() == 3 || b.imports.stream().anyMatch(i -> i.pack == pack)) {
            throw new UnsupportedOperationException();
        }
        Import i = new Import();
        i.pack = pack;
        i.low = low;
        i.high = high;
        i.optional = optional;
        b.imports.add(i);
        return b.imports.size();
    }

    private int resolve(int bundle) {
        range(bundle, 0, 7);
        Bundle b = there(bundle);
        return b.settled() ? 0 : resolving(b);
    }

    /** Throws what resolve throws. */
    private int resolving(Bundle root) {
        tries = 0;
        tookIn = 0;
        for (Bundle other : bundles) {
            if (other != root && other.settled() && other.name == root.name) {
                throw new IllegalStateException();
            }
        }
        Chosen solution = solve(takeIn(new Chosen(), root), 0);
        if (solution == null) {
            if (tries > 300) {
                throw new ArithmeticException();
            }
            throw new IllegalStateException();
        }
        tookIn = solution.takenIn.size();
        settle(solution);
        return tookIn;
    }

    private static Chosen takeIn(Chosen chosen, Bundle b) {
        chosen.takenIn.add(b.number);
        b.imports.stream().filter(i -> !i.optional).forEach(chosen.tasks::add);
        return chosen;
    }

    private Chosen solve(Chosen chosen, int task) {
        if (task == chosen.tasks.size()) {
            return chosen;
        }
        Import wanted = chosen.tasks.get(task);
        for (Export candidate : candidates(wanted, chosen)) {
            if (tries > 300) {
                return null;
            }
            tries++;
            if (tries > 300) {
                return null;
            }
            Chosen next = chosen.copy();
            next.exports.put(wanted, candidate);
            Bundle maker = bundles[candidate.bundle()];
            if (maker.state.equals("INSTALLED") && !next.takenIn.contains(maker.number)) {
                takeIn(next, maker);
            }
            Chosen solution = clash(next) ? null : solve(next, task + 1);
            if (solution != null) {
                return solution;
            }
        }
        return null;
    }

    /** With nothing chosen: those of RESOLVED and ACTIVE ones, whatever their names are. */
    private List<Export> candidates(Import wanted, Chosen chosen) {
        List<Export> found = new ArrayList<>();
        for (Bundle b : bundles) {
            for (Export e : b.exports) {
                boolean fits = !b.state.equals("NONE") && e.pack() == wanted.pack
                        && wanted.low <= e.version() && e.version() <= wanted.high;
                boolean allowed = chosen == null ? b.settled() : Arrays.stream(bundles).noneMatch(o -> o != b
                        && o.name == b.name && (o.settled() || chosen.takenIn.contains(o.number)));
                if (fits && allowed) {
                    found.add(e);
                }
            }
        }
        found.sort(Comparator.comparing((Export e) -> !bundles[e.bundle()].settled())
                .thenComparing(e -> -e.version()).thenComparing(Export::bundle));
        return found;
    }

    private Port portOf(Export export) {
        return bundles[export.bundle()].ports.stream().filter(p -> p.export == export).findFirst().orElseThrow();
    }

    /** An Export of a bundle that is not settled, or a Port, or null. */
    private Object source(Bundle b, int pack, Chosen chosen) {
        for (Export e : b.exports) {
            if (e.pack() == pack) {
                return b.settled() ? portOf(e) : e;
            }
        }
        for (Import i : b.imports) {
            if (i.pack == pack) {
                return b.settled() ? i.wire : asSource(chosen.exports.get(i));
            }
        }
        return null;
    }

    private Object asSource(Export export) {
        return export != null && bundles[export.bundle()].settled() ? portOf(export) : export;
    }

    private boolean clash(Chosen chosen) {
        for (int number : chosen.takenIn) {
            Bundle b = bundles[number];
            for (Import i : b.imports) {
                Export e = b.settled() ? (i.wire == null ? null : i.wire.export) : chosen.exports.get(i);
                for (int q = 0; e != null && q < 8; q++) {
                    if ((e.uses() & 1 << q) != 0) {
                        Object one = source(b, q, chosen);
                        Object other = source(bundles[e.bundle()], q, chosen);
                        if (one != null && other != null && one != other) {
                            return true;
                        }
                    }
                }
            }
        }
        return false;
    }

    private void settle(Chosen solution) {
        for (int number : solution.takenIn) {
            bundles[number].state = "RESOLVED";
            bundles[number].ports = new ArrayList<>();
            for (Export e : bundles[number].exports) {
                bundles[number].ports.add(new Port(e, time));
            }
        }
        solution.exports.forEach((wanted, export) -> wanted.wire = portOf(export));
        for (int number : solution.takenIn) {
            for (Import i : bundles[number].imports) {
                for (Export e : i.optional ? candidates(i, null) : List.<Export>of()) {
                    if (i.wire == null) {
                        i.wire = portOf(e);
                        i.wire = clash(solution) ? null : i.wire;
                    }
                }
            }
        }
    }

    private void note(int event) {
        if (events.size() < 10) {
            events.add(event);
        } else {
            lost++;
        }
    }

    private int start(int bundle) {
        range(bundle, 0, 7);
        Bundle b = there(bundle);
        b.wanted = true;
        if (!b.state.equals("ACTIVE") && b.level <= level) {
            starting(b);
        }
        return b.state.equals("ACTIVE") ? 1 : 0;
    }

    private void starting(Bundle b) {
        if (b.state.equals("INSTALLED")) {
            resolving(b);
        }
        if (b.activator == 1 || b.activator == 4 && b.startedBefore) {
            throw new UnsupportedOperationException();
        }
        if (b.activator == 2) {
            newService(b, 0, b.number);
        }
        if (b.activator == 3) {
            best(0).got[b.number]++;
        }
        b.startedBefore = true;
        b.state = "ACTIVE";
        note(100 + b.number);
    }

    /** Whether it came to be ACTIVE. */
    private boolean startingPassedOver(Bundle b) {
        try {
            starting(b);
            return true;
        } catch (IllegalStateException | UnsupportedOperationException | ArithmeticException e) {
            return false;
        }
    }

    private int stopping(Bundle b) {
        if (!b.state.equals("ACTIVE")) {
            return 0;
        }
        List<Service> own = new ArrayList<>(services.values());
        own.removeIf(s -> s.owner != b.number);
        for (Service s : own) {
            services.remove(s.number);
            note(400 + s.number % 100);
        }
        services.values().forEach(s -> s.got[b.number] = 0);
        b.state = "RESOLVED";
        note(200 + b.number);
        return own.size();
    }

    private int stop(int bundle) {
        range(bundle, 0, 7);
        Bundle b = there(bundle);
        b.wanted = false;
        return stopping(b);
    }

    private int level(int to) {
        range(to, 1, 5);
        int changed = 0;
        while (level < to) {
            level++;
            for (Bundle b : bundles) {
                if (b.wanted && b.level == level && !b.state.equals("ACTIVE") && startingPassedOver(b)) {
                    changed++;
                }
            }
        }
        while (level > to) {
            for (int i = 7; i >= 0; i--) {
                if (bundles[i].state.equals("ACTIVE") && bundles[i].level == level) {
                    stopping(bundles[i]);
                    changed++;
                }
            }
            level--;
        }
        return changed;
    }

    private int wiresTo(int bundle) {
        int wires = 0;
        for (Bundle b : bundles) {
            for (Import i : b.imports) {
                wires += b.number != bundle && i.wire != null && i.wire.export.bundle() == bundle ? 1 : 0;
            }
        }
        return wires;
    }

    private int uninstall(int bundle) {
        range(bundle, 0, 7);
        stopping(there(bundle));
        bundles[bundle] = new Bundle();
        bundles[bundle].number = bundle;
        return wiresTo(bundle);
    }

    private int update(int bundle) {
        range(bundle, 0, 7);
        Bundle b = there(bundle);
        stopping(b);
        b.state = "INSTALLED";
        b.exports = new ArrayList<>();
        b.imports = new ArrayList<>();
        b.ports = new ArrayList<>();
        b.startedBefore = false;
        b.bornAt = time;
        return wiresTo(bundle);
    }

    private boolean old(Port port) {
        Bundle b = bundles[port.export.bundle()];
        return !b.settled() || port.madeAt < b.bornAt;
    }

    private int refresh() {
        Set<Integer> stale = new HashSet<>();
        boolean grew = true;
        while (grew) {
            grew = false;
            for (Bundle b : bundles) {
                for (Import i : b.imports) {
                    if (i.wire != null && (old(i.wire) || stale.contains(i.wire.export.bundle()))) {
                        grew |= stale.add(b.number);
                    }
                }
            }
        }
        for (int i = 7; i >= 0; i--) {
            if (stale.contains(i)) {
                stopping(bundles[i]);
            }
        }
        for (int i : stale) {
            bundles[i].state = "INSTALLED";
            bundles[i].imports.forEach(x -> x.wire = null);
        }
        for (int i = 0; i < 8; i++) {
            if (stale.contains(i) && bundles[i].wanted && bundles[i].level <= level) {
                startingPassedOver(bundles[i]);
            }
        }
        return stale.size();
    }

    private int newService(Bundle b, int kind, double rank) {
        if (services.size() == 20) {
            throw new UnsupportedOperationException();
        }
        Service s = new Service();
        s.number = nextService++;
        s.owner = b.number;
        s.kind = kind;
        s.rank = rank;
        services.put(s.number, s);
        note(300 + s.number % 100);
        return s.number;
    }

    private int register(int bundle, int kind, double rank) {
        range(bundle, 0, 7);
        range(kind, 0, 3);
        if (Double.isNaN(rank) || Math.abs(rank) > 1000) {
            throw new IllegalArgumentException();
        }
        if (!there(bundle).state.equals("ACTIVE")) {
            throw new IllegalStateException();
        }
        return newService(bundles[bundle], kind, rank);
    }

    private Service best(int kind) {
        return services.values().stream().filter(s -> s.kind == kind)
                .sorted(Comparator.comparing((Service s) -> s.rank == 0 ? 0.0 : -s.rank).thenComparing(s -> s.number))
                .findFirst().orElseThrow(UnsupportedOperationException::new);
    }

    private int get(int bundle, int kind) {
        range(bundle, 0, 7);
        range(kind, 0, 3);
        if (!there(bundle).state.equals("ACTIVE")) {
            throw new IllegalStateException();
        }
        Service s = best(kind);
        s.got[bundle]++;
        return s.number;
    }

    private int giveBack(int bundle, int service) {
        range(bundle, 0, 7);
        range(service, 0, Integer.MAX_VALUE);
        there(bundle);
        Service s = services.get(service);
        if (s == null || s.got[bundle] == 0) {
            throw new UnsupportedOperationException();
        }
        return --s.got[bundle];
    }

    private int unregister(int bundle, int service) {
        range(bundle, 0, 7);
        range(service, 0, Integer.MAX_VALUE);
        there(bundle);
        Service s = services.get(service);
        if (s == null || s.owner != bundle) {
            throw new UnsupportedOperationException();
        }
        services.remove(service);
        note(400 + service % 100);
        return Arrays.stream(s.got).sum();
    }

    private double rank(int kind) {
        range(kind, 0, 3);
        double sum = 0;
        int many = 0;
        for (Service s : services.values()) {
            if (s.kind == kind) {
                sum += s.rank;
                many++;
            }
        }
        if (many == 0) {
            throw new ArithmeticException();
        }
        return sum / many;
    }

    private int event() {
        if (events.isEmpty()) {
            throw new IllegalStateException();
        }
        return events.remove(0);
    }

    private int about(int bundle, int what) {
        range(bundle, 0, 7);
        range(what, 0, 7);
        Bundle b = bundles[bundle];
        switch (what) {
            case 0: return List.of("NONE", "INSTALLED", "RESOLVED", "ACTIVE").indexOf(b.state);
            case 1: return b.wanted ? 1 : 0;
            case 2: return (int) services.values().stream().filter(s -> s.owner == bundle).count();
            case 3: return b.exports.size();
            case 4: return b.imports.size();
            default:
                Port wire = what - 5 < b.imports.size() ? b.imports.get(what - 5).wire : null;
                return wire == null ? -1 : wire.export.bundle() + (old(wire) ? 100 : 0);
        }
    }

    private int count(int what) {
        range(what, 0, 5);
        return new int[] {level, services.size(), events.size(), lost, tries, tookIn}[what];
    }
}
