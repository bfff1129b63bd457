import java.util.Arrays;
import java.util.NoSuchElementException;

/**
 * A framework for bundles: packages in versions, resolving with what packages use, lives of
 * bundles, levels, activators that fail, services with ranks, and refreshing.
 */
public final class BundleHall {
    private static final int BUNDLES = 8;
    private static final int LAST_NAME = 5;
    private static final int PACKAGES = 8;
    private static final int VERSIONS = 10;
    private static final int LAST_USES = 255;
    private static final int MOST_PORTS = 3;
    private static final int LEAST_LEVEL = 1;
    private static final int TOP_LEVEL = 5;
    private static final int LAST_KIND = 3;
    private static final int MOST_SERVICES = 20;
    private static final int MOST_EVENTS = 10;
    private static final int MOST_TRIES = 300;
    private static final int MOST_TASKS = BUNDLES * MOST_PORTS;

    private static final int NONE = 0;
    private static final int INSTALLED = 1;
    private static final int RESOLVED = 2;
    private static final int ACTIVE = 3;

    private static final int THROWS = 1;
    private static final int REGISTERS = 2;
    private static final int GETS = 3;
    private static final int STARTS_ONCE = 4;

    private static final int BECAME_ACTIVE = 100;
    private static final int ACTIVE_NO_MORE = 200;
    private static final int SERVICE_CAME = 300;
    private static final int SERVICE_WENT = 400;
    private static final int EVENT_NUMBERS = 100;

    private static final int OLD_MARK = 100;
    private static final int NO_PORT = -1;
    private static final int NO_VERSION = -1;
    private static final int NO_IMPORT = -1;
    private static final int NO_ROW = -1;
    private static final int BEFORE_ALL = -1;
    private static final int NO_CANDIDATE = 2 * VERSIONS * BUNDLES;

    private final Bundle[] bundles;
    private final Resolver resolver;
    private final Services services;
    private final Events events;
    private int frameworkLevel;

    public BundleHall() {
        bundles = new Bundle[BUNDLES];
        for (int i = 0; i < BUNDLES; i++) {
            bundles[i] = new Bundle(i);
        }
        resolver = new Resolver();
        services = new Services();
        events = new Events();
        frameworkLevel = LEAST_LEVEL;
    }

    public int install(int bundle, int name, int level, int activator)
            throws IllegalArgumentException, IllegalStateException {
        checkBundle(bundle);
        checkRange(name, 0, LAST_NAME);
        checkRange(level, LEAST_LEVEL, TOP_LEVEL);
        checkRange(activator, 0, STARTS_ONCE);
        Bundle installed = bundles[bundle];
        if (installed.state != NONE) {
            throw new IllegalStateException("the bundle is there already");
        }
        installed.enter(name, level, activator);
        return bundlesThere();
    }

    public int export(int bundle, int what, int uses)
            throws IllegalArgumentException, NoSuchElementException, IllegalStateException,
            UnsupportedOperationException {
        checkBundle(bundle);
        checkRange(what, 0, PACKAGES * VERSIONS - 1);
        checkRange(uses, 0, LAST_USES);
        Manifest manifest = openManifest(bundle);
        int packageNumber = what % PACKAGES;
        if (!manifest.canExport(packageNumber)) {
            throw new UnsupportedOperationException("no room for this export");
        }
        manifest.addExport(packageNumber, what / PACKAGES, uses);
        return manifest.exports;
    }

    public int need(int bundle, int packageNumber, int low, int high, boolean optional)
            throws IllegalArgumentException, NoSuchElementException, IllegalStateException,
            UnsupportedOperationException {
        checkBundle(bundle);
        checkRange(packageNumber, 0, PACKAGES - 1);
        checkRange(low, 0, VERSIONS - 1);
        checkRange(high, 0, VERSIONS - 1);
        Manifest manifest = openManifest(bundle);
        if (!manifest.canImport(packageNumber)) {
            throw new UnsupportedOperationException("no room for this import");
        }
        manifest.addImport(packageNumber, low, high, optional);
        return manifest.imports;
    }

    public int resolve(int bundle)
            throws IllegalArgumentException, NoSuchElementException, IllegalStateException,
            ArithmeticException {
        checkBundle(bundle);
        Bundle asked = present(bundle);
        if (asked.isResolved()) {
            return 0;
        }
        throwUnlessDone(resolver.run(bundles, asked));
        return resolver.tookIn;
    }

    public int start(int bundle)
            throws IllegalArgumentException, NoSuchElementException, IllegalStateException,
            UnsupportedOperationException, ArithmeticException {
        checkBundle(bundle);
        Bundle asked = present(bundle);
        asked.wanted = true;
        if (asked.state != ACTIVE && asked.level <= frameworkLevel) {
            throwUnlessDone(activate(asked));
        }
        return asked.state == ACTIVE ? 1 : 0;
    }

    public int stop(int bundle) throws IllegalArgumentException, NoSuchElementException {
        checkBundle(bundle);
        Bundle asked = present(bundle);
        int had = services.ownedBy(bundle);
        asked.wanted = false;
        deactivate(asked);
        return had;
    }

    public int level(int level) throws IllegalArgumentException {
        checkRange(level, LEAST_LEVEL, TOP_LEVEL);
        int before = frameworkLevel;
        frameworkLevel = level;
        int changed = 0;
        for (int risen = before + 1; risen <= level; risen++) {
            for (int i = 0; i < BUNDLES; i++) {
                if (bundles[i].isDueAt(risen) && activate(bundles[i]) == Outcome.DONE) {
                    changed++;
                }
            }
        }
        for (int left = before; left > level; left--) {
            changed += deactivateLevel(left);
        }
        return changed;
    }

    public int uninstall(int bundle) throws IllegalArgumentException, NoSuchElementException {
        checkBundle(bundle);
        Bundle asked = present(bundle);
        deactivate(asked);
        asked.leave();
        return wiresOfOthersTo(bundle);
    }

    public int update(int bundle) throws IllegalArgumentException, NoSuchElementException {
        checkBundle(bundle);
        Bundle asked = present(bundle);
        deactivate(asked);
        asked.beginNewLife();
        return wiresOfOthersTo(bundle);
    }

    public int refresh() {
        int stale = staleBundles();
        for (int i = BUNDLES - 1; i >= 0; i--) {
            if (isIn(stale, i)) {
                deactivate(bundles[i]);
            }
        }
        for (int i = 0; i < BUNDLES; i++) {
            if (isIn(stale, i)) {
                bundles[i].beUnresolved();
            }
        }
        for (int i = 0; i < BUNDLES; i++) {
            if (isIn(stale, i) && bundles[i].wanted && bundles[i].level <= frameworkLevel) {
                activate(bundles[i]);
            }
        }
        return Integer.bitCount(stale);
    }

    public int register(int bundle, int kind, double rank)
            throws IllegalArgumentException, NoSuchElementException, IllegalStateException,
            UnsupportedOperationException {
        checkBundle(bundle);
        checkRange(kind, 0, LAST_KIND);
        checkRank(rank);
        checkActive(present(bundle));
        if (services.isFull()) {
            throw new UnsupportedOperationException("no room for another service");
        }
        return addService(bundle, kind, rank);
    }

    public int get(int bundle, int kind)
            throws IllegalArgumentException, NoSuchElementException, IllegalStateException,
            UnsupportedOperationException {
        checkBundle(bundle);
        checkRange(kind, 0, LAST_KIND);
        checkActive(present(bundle));
        int row = services.bestRow(kind);
        if (row == NO_ROW) {
            throw new UnsupportedOperationException("no service of this kind");
        }
        services.rows[row].got[bundle]++;
        return services.rows[row].number;
    }

    public int giveBack(int bundle, int service)
            throws IllegalArgumentException, NoSuchElementException,
            UnsupportedOperationException {
        checkBundle(bundle);
        checkService(service);
        present(bundle);
        int row = services.rowOf(service);
        if (row == NO_ROW || services.rows[row].got[bundle] == 0) {
            throw new UnsupportedOperationException("the bundle has not got this service");
        }
        services.rows[row].got[bundle]--;
        return services.rows[row].got[bundle];
    }

    public int unregister(int bundle, int service)
            throws IllegalArgumentException, NoSuchElementException,
            UnsupportedOperationException {
        checkBundle(bundle);
        checkService(service);
        present(bundle);
        int row = services.rowOf(service);
        if (row == NO_ROW || services.rows[row].owner != bundle) {
            throw new UnsupportedOperationException("the bundle has no such service");
        }
        int got = services.rows[row].gotByAll();
        dropService(row);
        return got;
    }

    public double rank(int kind) throws IllegalArgumentException, ArithmeticException {
        checkRange(kind, 0, LAST_KIND);
        int many = services.ofKind(kind);
        if (many == 0) {
            throw new ArithmeticException("no service of this kind");
        }
        return services.sumOfRanks(kind) / many;
    }

    public int event() throws IllegalStateException {
        if (events.kept == 0) {
            throw new IllegalStateException("no event is kept");
        }
        return events.takeOldest();
    }

    public int about(int bundle, int what) throws IllegalArgumentException {
        checkBundle(bundle);
        checkRange(what, 0, 4 + MOST_PORTS);
        Bundle asked = bundles[bundle];
        switch (what) {
            case 0:
                return asked.state;
            case 1:
                return asked.wanted ? 1 : 0;
            case 2:
                return services.ownedBy(bundle);
            case 3:
                return asked.manifest.exports;
            case 4:
                return asked.manifest.imports;
            default:
                return wireTarget(asked.wires[what - 5]);
        }
    }

    public int count(int what) throws IllegalArgumentException {
        checkRange(what, 0, 5);
        switch (what) {
            case 0:
                return frameworkLevel;
            case 1:
                return services.size;
            case 2:
                return events.kept;
            case 3:
                return events.lost;
            case 4:
                return resolver.tries;
            default:
                return resolver.tookIn;
        }
    }

    private static void checkRange(int value, int least, int most) {
        if (value < least || value > most) {
            throw new IllegalArgumentException("a number is out of range");
        }
    }

    private static void checkBundle(int bundle) {
        checkRange(bundle, 0, BUNDLES - 1);
    }

    private static void checkService(int service) {
        if (service < 0) {
            throw new IllegalArgumentException("the service number is below 0");
        }
    }

    private static void checkRank(double rank) {
        // Asked this way round, so that what is no number is refused too.
        if (!(rank >= -1000.0 && rank <= 1000.0)) {
            throw new IllegalArgumentException("the rank is out of range");
        }
    }

    private static void checkActive(Bundle bundle) {
        if (bundle.state != ACTIVE) {
            throw new IllegalStateException("the bundle is not active");
        }
    }

    private Bundle present(int bundle) {
        Bundle found = bundles[bundle];
        if (found.state == NONE) {
            throw new NoSuchElementException("the bundle is not there");
        }
        return found;
    }

    private Manifest openManifest(int bundle) {
        Bundle found = present(bundle);
        if (found.state != INSTALLED) {
            throw new IllegalStateException("the bundle is resolved");
        }
        return found.manifest;
    }

    private static void throwUnlessDone(Outcome outcome) {
        if (outcome == Outcome.UNSOLVABLE) {
            throw new IllegalStateException("the bundle can't be resolved");
        }
        if (outcome == Outcome.TOO_HARD) {
            throw new ArithmeticException("resolving is too hard");
        }
        if (outcome == Outcome.REFUSED) {
            throw new UnsupportedOperationException("the activator failed");
        }
    }

    private int bundlesThere() {
        int there = 0;
        for (int i = 0; i < BUNDLES; i++) {
            if (bundles[i].state != NONE) {
                there++;
            }
        }
        return there;
    }

    private Outcome activate(Bundle bundle) {
        if (bundle.state == INSTALLED) {
            Outcome resolving = resolver.run(bundles, bundle);
            if (resolving != Outcome.DONE) {
                return resolving;
            }
        }
        if (!runActivator(bundle)) {
            return Outcome.REFUSED;
        }
        bundle.hasStarted = true;
        bundle.state = ACTIVE;
        events.add(BECAME_ACTIVE + bundle.number);
        return Outcome.DONE;
    }

    private boolean runActivator(Bundle bundle) {
        switch (bundle.activator) {
            case THROWS:
                return false;
            case REGISTERS:
                return activatorRegisters(bundle.number);
            case GETS:
                return activatorGets(bundle.number);
            case STARTS_ONCE:
                return !bundle.hasStarted;
            default:
                return true;
        }
    }

    private boolean activatorRegisters(int bundle) {
        if (services.isFull()) {
            return false;
        }
        addService(bundle, 0, bundle);
        return true;
    }

    private boolean activatorGets(int bundle) {
        int row = services.bestRow(0);
        if (row == NO_ROW) {
            return false;
        }
        services.rows[row].got[bundle]++;
        return true;
    }

    private void deactivate(Bundle bundle) {
        if (bundle.state != ACTIVE) {
            return;
        }
        int row = 0;
        for (int left = services.size; left > 0; left--) {
            if (services.rows[row].owner == bundle.number) {
                dropService(row);
            } else {
                row++;
            }
        }
        services.takeBackAll(bundle.number);
        bundle.state = RESOLVED;
        events.add(ACTIVE_NO_MORE + bundle.number);
    }

    private int deactivateLevel(int level) {
        int stopped = 0;
        for (int i = BUNDLES - 1; i >= 0; i--) {
            if (bundles[i].state == ACTIVE && bundles[i].level == level) {
                deactivate(bundles[i]);
                stopped++;
            }
        }
        return stopped;
    }

    private int addService(int bundle, int kind, double rank) {
        int number = services.add(bundle, kind, rank);
        events.add(SERVICE_CAME + number % EVENT_NUMBERS);
        return number;
    }

    private void dropService(int row) {
        events.add(SERVICE_WENT + services.rows[row].number % EVENT_NUMBERS);
        services.remove(row);
    }

    private static int ownerOf(int port) {
        return Math.floorMod(port, BUNDLES);
    }

    private boolean isOld(int port) {
        Bundle owner = bundles[ownerOf(port)];
        return port != owner.port || !owner.isResolved();
    }

    private int wireTarget(int port) {
        if (port == NO_PORT) {
            return NO_PORT;
        }
        return isOld(port) ? ownerOf(port) + OLD_MARK : ownerOf(port);
    }

    private int wiresOfOthersTo(int bundle) {
        int wires = 0;
        for (int i = 0; i < BUNDLES; i++) {
            if (i != bundle) {
                wires += bundles[i].wiresTo(bundle);
            }
        }
        return wires;
    }

    private static boolean isIn(int set, int bundle) {
        return (set >> bundle & 1) != 0;
    }

    private int staleBundles() {
        int stale = 0;
        // Each round goes one wire further, and no chain of wires passes more bundles than there are.
        for (int round = 0; round < BUNDLES; round++) {
            for (int i = 0; i < BUNDLES; i++) {
                if (leansOnStale(bundles[i], stale)) {
                    stale |= 1 << i;
                }
            }
        }
        return stale;
    }

    private boolean leansOnStale(Bundle bundle, int stale) {
        for (int i = 0; i < MOST_PORTS; i++) {
            int port = bundle.wires[i];
            if (port != NO_PORT && (isOld(port) || isIn(stale, ownerOf(port)))) {
                return true;
            }
        }
        return false;
    }

    /** How resolving or starting a bundle ended. */
    private enum Outcome { DONE, UNSOLVABLE, TOO_HARD, REFUSED }

    /** What a bundle exports and imports. */
    private static final class Manifest {
        final int[] version = new int[PACKAGES];
        final int[] uses = new int[PACKAGES];
        final int[] importOf = new int[PACKAGES];
        final int[] needed = new int[MOST_PORTS];
        final int[] low = new int[MOST_PORTS];
        final int[] high = new int[MOST_PORTS];
        final boolean[] optional = new boolean[MOST_PORTS];
        int exports;
        int imports;

        Manifest() {
            Arrays.fill(version, NO_VERSION);
            Arrays.fill(importOf, NO_IMPORT);
        }

        void clear() {
            Arrays.fill(version, NO_VERSION);
            Arrays.fill(importOf, NO_IMPORT);
            exports = 0;
            imports = 0;
        }

        boolean canExport(int packageNumber) {
            return exports < MOST_PORTS && version[packageNumber] == NO_VERSION;
        }

        void addExport(int packageNumber, int ofVersion, int usesSet) {
            version[packageNumber] = ofVersion;
            uses[packageNumber] = usesSet;
            exports++;
        }

        boolean canImport(int packageNumber) {
            return imports < MOST_PORTS && importOf[packageNumber] == NO_IMPORT;
        }

        void addImport(int packageNumber, int least, int most, boolean isOptional) {
            importOf[packageNumber] = imports;
            needed[imports] = packageNumber;
            low[imports] = least;
            high[imports] = most;
            optional[imports] = isOptional;
            imports++;
        }

        /** The version that it exports, or NO_VERSION if it has none that the import takes. */
        int versionFor(Manifest importer, int index) {
            int found = version[importer.needed[index]];
            return found >= importer.low[index] && found <= importer.high[index]
                    ? found : NO_VERSION;
        }
    }

    /** One bundle, with its wires; a wire holds the port number of the bundle that it goes to. */
    private static final class Bundle {
        final int number;
        final Manifest manifest;
        final int[] wires;
        int state;
        int name;
        int level;
        int activator;
        boolean wanted;
        boolean hasStarted;
        // The ports of one life share one number, for the import tells the package. A new life
        // takes a new number, so that wires from before are known as old and as other sources.
        int port;

        Bundle(int itsNumber) {
            number = itsNumber;
            port = itsNumber;
            manifest = new Manifest();
            wires = new int[MOST_PORTS];
            Arrays.fill(wires, NO_PORT);
        }

        boolean isResolved() {
            return state >= RESOLVED;
        }

        boolean isDueAt(int frameworkLevel) {
            return wanted && level == frameworkLevel && state != ACTIVE;
        }

        void enter(int itsName, int itsLevel, int itsActivator) {
            name = itsName;
            level = itsLevel;
            activator = itsActivator;
            beginNewLife();
        }

        void beginNewLife() {
            manifest.clear();
            hasStarted = false;
            port += BUNDLES;
            beUnresolved();
        }

        void beUnresolved() {
            state = INSTALLED;
            Arrays.fill(wires, NO_PORT);
        }

        void leave() {
            manifest.clear();
            beUnresolved();
            wanted = false;
            state = NONE;
        }

        int wiresTo(int bundle) {
            int wiresThere = 0;
            for (int i = 0; i < MOST_PORTS; i++) {
                if (wires[i] != NO_PORT && ownerOf(wires[i]) == bundle) {
                    wiresThere++;
                }
            }
            return wiresThere;
        }

        int sourceOf(int packageNumber) {
            if (manifest.version[packageNumber] != NO_VERSION) {
                return port;
            }
            int index = manifest.importOf[packageNumber];
            return index == NO_IMPORT ? NO_PORT : wires[index];
        }
    }

    /**
     * The search for wires. What is chosen is written into the wires of the bundles at once and
     * taken out again when it is undone, so that sources are read alike before and after.
     */
    private static final class Resolver {
        final int[] taskBundle = new int[MOST_TASKS];
        final int[] taskImport = new int[MOST_TASKS];
        final boolean[] takenIn = new boolean[BUNDLES];
        int tasks;
        int tries;
        int tookIn;

        Outcome run(Bundle[] bundles, Bundle root) {
            for (int i = 0; i < BUNDLES; i++) {
                takenIn[i] = false;
            }
            tasks = 0;
            tries = 0;
            tookIn = 0;
            if (nameIsTaken(bundles, root)) {
                return Outcome.UNSOLVABLE;
            }
            takeIn(root);
            if (!solveFrom(bundles, 0)) {
                tookIn = 0;
                return tries > MOST_TRIES ? Outcome.TOO_HARD : Outcome.UNSOLVABLE;
            }
            settle(bundles);
            return Outcome.DONE;
        }

        private void takeIn(Bundle bundle) {
            takenIn[bundle.number] = true;
            tookIn++;
            for (int i = 0; i < bundle.manifest.imports; i++) {
                if (!bundle.manifest.optional[i] && tasks < MOST_TASKS) {
                    taskBundle[tasks] = bundle.number;
                    taskImport[tasks] = i;
                    tasks++;
                }
            }
        }

        /** The depth is the task's number, so it stays within MOST_TASKS. */
        private boolean solveFrom(Bundle[] bundles, int task) {
            if (task >= tasks) {
                return true;
            }
            Bundle importer = bundles[taskBundle[task]];
            int index = taskImport[task];
            int tasksBefore = tasks;
            int key = BEFORE_ALL;
            for (int turn = 0; turn < BUNDLES && tries <= MOST_TRIES; turn++) {
                key = candidateAfter(key, bundles, importer.manifest, index, false);
                if (key == NO_CANDIDATE) {
                    return false;
                }
                tries++;
                if (tries > MOST_TRIES) {
                    return false;
                }
                Bundle exporter = bundles[key % BUNDLES];
                importer.wires[index] = exporter.port;
                boolean isNew = exporter.state == INSTALLED && !takenIn[exporter.number];
                if (isNew) {
                    takeIn(exporter);
                }
                if (!hasClash(bundles) && solveFrom(bundles, task + 1)) {
                    return true;
                }
                importer.wires[index] = NO_PORT;
                if (isNew) {
                    putOut(exporter, tasksBefore);
                }
            }
            return false;
        }

        private void putOut(Bundle bundle, int tasksBefore) {
            takenIn[bundle.number] = false;
            tookIn--;
            tasks = tasksBefore;
        }

        private int candidateAfter(int key, Bundle[] bundles, Manifest importer, int index,
                boolean resolvedOnly) {
            int next = NO_CANDIDATE;
            for (int i = 0; i < BUNDLES; i++) {
                int found = keyOf(bundles[i], importer, index);
                if (found > key && found < next) {
                    boolean allowed = resolvedOnly
                            ? bundles[i].isResolved() : !nameIsTaken(bundles, bundles[i]);
                    next = allowed ? found : next;
                }
            }
            return next;
        }

        /** Lesser keys come first; a key modulo BUNDLES is the bundle that exports. */
        private static int keyOf(Bundle exporter, Manifest importer, int index) {
            int version = exporter.manifest.versionFor(importer, index);
            if (exporter.state == NONE || version == NO_VERSION) {
                return NO_CANDIDATE;
            }
            int kind = exporter.isResolved() ? 0 : 1;
            return (kind * VERSIONS + VERSIONS - 1 - version) * BUNDLES + exporter.number;
        }

        private boolean nameIsTaken(Bundle[] bundles, Bundle bundle) {
            for (int i = 0; i < BUNDLES; i++) {
                boolean holdsName = bundles[i].isResolved() || takenIn[i];
                if (holdsName && i != bundle.number && bundles[i].name == bundle.name) {
                    return true;
                }
            }
            return false;
        }

        private boolean hasClash(Bundle[] bundles) {
            for (int i = 0; i < BUNDLES; i++) {
                Bundle importer = bundles[i];
                for (int k = 0; takenIn[i] && k < importer.manifest.imports; k++) {
                    int port = importer.wires[k];
                    if (port != NO_PORT) {
                        Bundle exporter = bundles[ownerOf(port)];
                        int uses = exporter.manifest.uses[importer.manifest.needed[k]];
                        if (sourcesDiffer(importer, exporter, uses)) {
                            return true;
                        }
                    }
                }
            }
            return false;
        }

        private static boolean sourcesDiffer(Bundle one, Bundle other, int packages) {
            for (int i = 0; i < PACKAGES; i++) {
                if (isIn(packages, i)) {
                    int first = one.sourceOf(i);
                    int second = other.sourceOf(i);
                    if (first != NO_PORT && second != NO_PORT && first != second) {
                        return true;
                    }
                }
            }
            return false;
        }

        private void settle(Bundle[] bundles) {
            for (int i = 0; i < BUNDLES; i++) {
                if (takenIn[i]) {
                    bundles[i].state = RESOLVED;
                }
            }
            for (int i = 0; i < BUNDLES; i++) {
                Bundle importer = bundles[i];
                for (int k = 0; takenIn[i] && k < importer.manifest.imports; k++) {
                    if (importer.manifest.optional[k]) {
                        wireOptional(bundles, importer, k);
                    }
                }
            }
        }

        private void wireOptional(Bundle[] bundles, Bundle importer, int index) {
            int key = BEFORE_ALL;
            for (int turn = 0; turn < BUNDLES; turn++) {
                key = candidateAfter(key, bundles, importer.manifest, index, true);
                if (key == NO_CANDIDATE) {
                    return;
                }
                importer.wires[index] = bundles[key % BUNDLES].port;
                if (!hasClash(bundles)) {
                    return;
                }
                importer.wires[index] = NO_PORT;
            }
        }
    }

    /** One service; the row is used again when it has gone. */
    private static final class Service {
        final int[] got = new int[BUNDLES];
        int number;
        int owner;
        int kind;
        double rank;

        int gotByAll() {
            int all = 0;
            for (int i = 0; i < BUNDLES; i++) {
                all += got[i];
            }
            return all;
        }
    }

    /** The services that are there, by rising numbers. */
    private static final class Services {
        final Service[] rows = new Service[MOST_SERVICES];
        int size;
        int nextNumber;

        Services() {
            for (int i = 0; i < MOST_SERVICES; i++) {
                rows[i] = new Service();
            }
        }

        boolean isFull() {
            return size >= MOST_SERVICES;
        }

        /** Only for one who has asked isFull. */
        int add(int owner, int kind, double rank) {
            Service added = rows[size];
            added.number = nextNumber;
            added.owner = owner;
            added.kind = kind;
            added.rank = rank;
            Arrays.fill(added.got, 0);
            size++;
            nextNumber++;
            return added.number;
        }

        void remove(int row) {
            Service gone = rows[row];
            for (int i = row; i < size - 1; i++) {
                rows[i] = rows[i + 1];
            }
            rows[size - 1] = gone;
            size--;
        }

        int rowOf(int number) {
            for (int i = 0; i < size; i++) {
                if (rows[i].number == number) {
                    return i;
                }
            }
            return NO_ROW;
        }

        int bestRow(int kind) {
            int best = NO_ROW;
            for (int i = 0; i < size; i++) {
                if (rows[i].kind == kind && (best == NO_ROW || rows[i].rank > rows[best].rank)) {
                    best = i;
                }
            }
            return best;
        }

        int ownedBy(int bundle) {
            int owned = 0;
            for (int i = 0; i < size; i++) {
                if (rows[i].owner == bundle) {
                    owned++;
                }
            }
            return owned;
        }

        int ofKind(int kind) {
            int many = 0;
            for (int i = 0; i < size; i++) {
                if (rows[i].kind == kind) {
                    many++;
                }
            }
            return many;
        }

        double sumOfRanks(int kind) {
            double sum = 0.0;
            for (int i = 0; i < size; i++) {
                if (rows[i].kind == kind) {
                    sum = sum + rows[i].rank;
                }
            }
            return sum;
        }

        void takeBackAll(int bundle) {
            for (int i = 0; i < size; i++) {
                rows[i].got[bundle] = 0;
            }
        }
    }

    /** The events that are kept, in a ring; when it is full, newer ones are lost. */
    private static final class Events {
        final int[] ring = new int[MOST_EVENTS];
        int oldest;
        int kept;
        int lost;

        void add(int code) {
            if (kept >= MOST_EVENTS) {
                lost++;
                return;
            }
            ring[(oldest + kept) % MOST_EVENTS] = code;
            kept++;
        }

        /** Only for one who has asked whether any is kept. */
        int takeOldest() {
            int code = ring[oldest];
            oldest = (oldest + 1) % MOST_EVENTS;
            kept--;
            return code;
        }
    }
}
