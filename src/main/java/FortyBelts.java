import java.util.Arrays;

/**
 * One engine, forty belts: shafts under a ceiling that belts turn by drums, machines on them, and
 * what follows from it. This class answers the calls and their refusals; how the shafts turn and
 * what the belts pull is Mill's.
 */
public final class FortyBelts {
    public static final int NONE = -1, BAD = -2, STATE = -3, FULL = -4;
    public static final long NO = -4611686018427387904L;

    private static final int NO_SUCH = -5;
    private static final int NOTHING = -11, OUTSIDE = -12, OTHER_SORT = -13, BELOW_ZERO = -14;

    private static final int MOST_PLACE = 99, MOST_BENDS = 9999;
    private static final int MOST_ENGINE_TURNS = 999, MOST_POWER = 9999;
    private static final int MOST_LOAD = 999, MOST_WANTED = 9999, MOST_HOURS = 24;
    private static final int MOST_SIZE = 99, MOST_GRIP = 999;
    private static final int MOST_BITE = 9999, MOST_WORN = 999999;
    private static final int MOST_WEAR = 9999, MOST_COST = 999;

    private static final int TEXTS = 6, SHEETS = 4;
    private static final int FREE_BELTS = 4;
    private static final int BITS = 32;
    private static final String FIRST_RULE = "wear load * hours ; mind 5 < wrap ; want size + 3 ;";

    private final Mill mill;
    private final Reader reader;
    private final Text[] texts;
    private int textCount;
    private int rule;
    private final int[] names;
    private final Sheet[] sheets;

    private final int[] tried;
    private final int[] chosen;
    private int chosenWell;
    private int chosenChanged;

    private boolean hasImage;
    private int imageRule;

    public FortyBelts() {
        mill = new Mill();
        reader = new Reader();
        texts = new Text[TEXTS];
        for (int i = 0; i < TEXTS; i++) {
            texts[i] = new Text();
        }
        for (int i = 0; i < FIRST_RULE.length(); i++) {
            reader.take(FIRST_RULE.charAt(i));
        }
        reader.readInto(texts[0]);
        textCount = 1;
        names = new int[Text.NAMES];
        sheets = new Sheet[SHEETS];
        for (int i = 0; i < SHEETS; i++) {
            sheets[i] = new Sheet();
        }
        tried = new int[FREE_BELTS];
        chosen = new int[FREE_BELTS];
    }

    // ---- shafts, machines, drums, belts

    public int shaft(int place, int bends) {
        if (!within(place, 0, MOST_PLACE) || !within(bends, 1, MOST_BENDS)) {
            return BAD;
        }
        return mill.shaftCount == Mill.SHAFTS ? FULL : mill.addShaft(place, bends);
    }

    public int engine(int what, int v) {
        if (what == 0 && within(v, 1, MOST_ENGINE_TURNS)) {
            int was = mill.engineTurns;
            mill.engineTurns = v;
            return was;
        }
        if (what == 1 && within(v, 1, MOST_POWER)) {
            int was = mill.power;
            mill.power = v;
            return was;
        }
        return BAD;
    }

    public int machine(int shaft, int load, int wants, int hours) {
        int from = wants / (MOST_WANTED + 1);
        int to = wants % (MOST_WANTED + 1);
        if (wants < 0 || from > MOST_WANTED || to < from) {
            return BAD;
        }
        if (!isShaft(shaft) || !within(load, 0, MOST_LOAD) || !within(hours, 0, MOST_HOURS)) {
            return BAD;
        }
        if (mill.machineCount == Mill.MACHINES) {
            return FULL;
        }
        Machine added = new Machine(shaft, from, to);
        added.load = load;
        added.hours = hours;
        return mill.addMachine(added);
    }

    public int set(int machine, int what, int v) {
        if (!isMachine(machine)) {
            return BAD;
        }
        Machine changed = mill.machines[machine];
        if (what == 0 && within(v, 0, MOST_LOAD)) {
            int was = changed.load;
            changed.load = v;
            return was;
        }
        if (what == 1 && within(v, 0, MOST_HOURS)) {
            int was = changed.hours;
            changed.hours = v;
            return was;
        }
        if (what == 2 && within(v, 0, 1)) {
            int was = asBit(changed.on);
            changed.on = v == 1;
            return was;
        }
        return BAD;
    }

    public int drum(int size) {
        if (!within(size, 1, MOST_SIZE)) {
            return BAD;
        }
        return mill.drumCount == Mill.DRUMS ? FULL : mill.addDrum(size);
    }

    public int belt(int kind, int shafts, int drums, int grip) {
        int driver = shafts / 10;
        int driven = shafts % 10;
        int driverDrum = drums / 100;
        int drivenDrum = drums % 100;
        if (!isKind(kind) || !isShaft(driver) || !isShaft(driven) || driven == 0 || driven == driver) {
            return BAD;
        }
        if (!isDrum(driverDrum) || !isDrum(drivenDrum) || driverDrum == drivenDrum || !within(grip, 1, MOST_GRIP)) {
            return BAD;
        }
        if (mill.drivenBy[driven] != NONE || mill.drives(driven, driver)) {
            return STATE;
        }
        if (mill.beltCount == Mill.BELTS) {
            return FULL;
        }
        Belt added = newBelt(kind, driver, driven, grip);
        mill.putDrum(added, 0, driverDrum);
        mill.putDrum(added, 1, drivenDrum);
        return mill.addBelt(added);
    }

    public int throwsOn(int belt, int is) {
        if (!isBelt(belt) || !within(is, 0, 1)) {
            return BAD;
        }
        int was = asBit(mill.belts[belt].on);
        mill.belts[belt].on = is == 1;
        return was;
    }

    public int change(int belt, int end, int drum) {
        if (!isBelt(belt) || !within(end, 0, 1) || !isDrum(drum)) {
            return BAD;
        }
        Belt changed = mill.belts[belt];
        int was = end == 0 ? changed.driverDrum : changed.drivenDrum;
        int other = end == 0 ? changed.drivenDrum : changed.driverDrum;
        if (drum == other) {
            return BAD;
        }
        mill.putDrum(changed, end, drum);
        return was;
    }

    public int told(int belt, int what) {
        if (!isBelt(belt)) {
            return NO_SUCH;
        }
        mill.spin();
        Belt asked = mill.belts[belt];
        switch (what) {
            case 0: return asked.kind;
            case 1: return asked.driver;
            case 2: return asked.driven;
            case 3: return asked.driverDrum;
            case 4: return asked.drivenDrum;
            case 5: return asBit(asked.on);
            case 6: return asked.way();
            case 7: return asked.wrap();
            case 8: return asked.length(mill.apart(asked));
            case 9: return mill.pull(asked);
            case 10: return asBit(mill.slips(asked));
            case 11: return wear(asked);
            default: return NO_SUCH;
        }
    }

    public long turns(int shaft, int what) {
        if (!isShaft(shaft)) {
            return NO;
        }
        mill.spin();
        long divisor = mill.commonDivisor(shaft);
        switch (what) {
            case 0: return mill.above[shaft] / divisor;
            case 1: return mill.below[shaft] / divisor;
            case 2: return mill.ways[shaft];
            case 3: return mill.pulls(shaft);
            case 4: return asBit(mill.isBent(shaft));
            default: return NO;
        }
    }

    public int runs(int what) {
        mill.spin();
        switch (what) {
            case 0: return mill.wellRunning();
            case 1: return mill.turning();
            case 2: return mill.loadedInAll();
            default: return BAD;
        }
    }

    // ---- texts

    public int feed(int n, long bytes) {
        if (!within(n, 1, 8)) {
            return BAD;
        }
        if (reader.fed + n > Reader.TAPE) {
            return FULL;
        }
        for (int i = 0; i < n; i++) {
            reader.take((int) (bytes >> 8 * i));
        }
        return reader.fed;
    }

    public int text() {
        if (textCount == TEXTS) {
            return FULL;
        }
        int fault = reader.readInto(texts[textCount]);
        if (fault != NONE) {
            return -100 - fault;
        }
        textCount++;
        return textCount - 1;
    }

    public int force(int text) {
        if (!within(text, 0, textCount - 1)) {
            return BAD;
        }
        int was = rule;
        rule = text;
        return was;
    }

    // ---- what follows

    public int judge() {
        mill.spin();
        int ill = lowestBit(~mill.wellRunning());
        if (ill < mill.machineCount) {
            return 1000 + ill;
        }
        int slipping = mill.firstSlipping();
        if (slipping != NONE) {
            return 2000 + slipping;
        }
        int bent = mill.firstBent();
        if (bent != NONE) {
            return 3000 + bent;
        }
        int shared = mill.firstSharedDrum();
        if (shared != NONE) {
            return 4000 + shared;
        }
        return mill.loadedInAll() > mill.power ? 5000 : NONE;
    }

    public int choose(int what) {
        boolean ofBelt = within(what, 10, 9 + freeBelts());
        if (what != 0 && what != 1 && !ofBelt) {
            return BAD;
        }
        if (!findChosen()) {
            return NONE;
        }
        if (ofBelt) {
            return chosen[what - 10];
        }
        return what == 0 ? chosenWell : chosenChanged;
    }

    public int lay() {
        if (!findChosen()) {
            return NONE;
        }
        for (int i = 0; i < freeBelts(); i++) {
            mill.putDrum(mill.belts[i], 1, chosen[i]);
        }
        return chosenChanged;
    }

    public int cut(int belt, int what) {
        if (!isBelt(belt) || !within(what, 0, 2)) {
            return BAD;
        }
        Belt tested = mill.belts[belt];
        int sizeNow = tested.b;
        int bestSize = 0;
        int bestWell = NONE;
        int bestCost = 0;
        for (int size = 1; size <= MOST_SIZE; size++) {
            tested.b = size;
            mill.spin();
            int well = Integer.bitCount(mill.wellRunning());
            int cost = cost(size);
            if (well > bestWell || well == bestWell && cost < bestCost) {
                bestSize = size;
                bestWell = well;
                bestCost = cost;
            }
        }
        tested.b = sizeNow;
        if (what == 0) {
            return bestSize;
        }
        return what == 1 ? bestWell : bestCost;
    }

    public int off(int belt) {
        return isBelt(belt) ? stoppedBy(mill.belts[belt]) : BAD;
    }

    public int hangs() {
        int found = NONE;
        int most = 0;
        for (int i = 0; i < mill.beltCount; i++) {
            int stopped = Integer.bitCount(stoppedBy(mill.belts[i]) & mill.switchedOn());
            if (stopped > most) {
                found = i;
                most = stopped;
            }
        }
        return found;
    }

    public int bite(int machine, int more) {
        if (!isMachine(machine) || !within(more, 0, MOST_BITE)) {
            return BAD;
        }
        mill.spin();
        Machine biting = mill.machines[machine];
        biting.load += more;
        int loaded = mill.loadedInAll();
        biting.load -= more;
        return minding(loaded) & ~(1 << machine);
    }

    public int years(int belt, int worn, int what) {
        if (!within(worn, 1, MOST_WORN) || !within(what, 0, 1) || what == 0 && !isBelt(belt)) {
            return BAD;
        }
        mill.spin();
        return what == 0 ? days(mill.belts[belt], worn) : firstWorn(worn);
    }

    public int start(int what) {
        if (!within(what, 0, 1)) {
            return BAD;
        }
        mill.spin();
        // Each belt only adds to what is loaded: the engine that stalls at any time does so at the end.
        if (mill.loadedInAll() > mill.power) {
            return NONE;
        }
        int order = firstOrder();
        return what == 0 || order == NONE ? order : mostJerk();
    }

    public int save() {
        mill.spin();
        int bits = 0;
        for (int shaft = 1; shaft < mill.shaftCount; shaft++) {
            if (mill.above[shaft] > 0 && mill.machinesOn(mill.shaftsFrom(shaft)) == 0) {
                bits |= 1 << shaft;
            }
        }
        return bits;
    }

    public int image() {
        mill.keep();
        imageRule = rule;
        hasImage = true;
        return mill.beltCount;
    }

    public int back() {
        if (!hasImage) {
            return STATE;
        }
        mill.restore();
        rule = imageRule;
        return mill.beltCount;
    }

    public int count(int what) {
        switch (what) {
            case 0: return mill.shaftCount;
            case 1: return mill.machineCount;
            case 2: return mill.drumCount;
            case 3: return mill.beltCount;
            case 4: return textCount;
            case 5: return reader.fed;
            case 6: return rule;
            default: return BAD;
        }
    }

    // ---- the host

    public int sheet(int sheet, int sort, int n) {
        if (!isSheet(sheet) || sort != Sheet.MISSING && !isSort(sort)) {
            return BAD;
        }
        if (sort == Sheet.MISSING) {
            sheets[sheet].become(Sheet.MISSING, 0);
            return 1;
        }
        if (n > Sheet.MOST) {
            return BAD;
        }
        if (n < 0) {
            return BELOW_ZERO;
        }
        sheets[sheet].become(sort, n);
        return 1;
    }

    public int cell(int sheet, int i, int v) {
        if (!isSheet(sheet)) {
            return BAD;
        }
        Sheet changed = sheets[sheet];
        if (changed.sort == Sheet.MISSING) {
            return NOTHING;
        }
        if (!within(i, 0, changed.size - 1)) {
            return OUTSIDE;
        }
        changed.put(i, v);
        return 1;
    }

    public int copy(int sheet, int i, int other, int j, int n) {
        if (!isSheet(sheet) || !isSheet(other)) {
            return BAD;
        }
        Sheet from = sheets[sheet];
        Sheet to = sheets[other];
        if (from.sort == Sheet.MISSING || to.sort == Sheet.MISSING) {
            return NOTHING;
        }
        if (from.sort != to.sort) {
            return OTHER_SORT;
        }
        if (!from.holds(i, n) || !to.holds(j, n)) {
            return OUTSIDE;
        }
        System.arraycopy(from.items, i, to.items, j, n);
        return n;
    }

    public int drums(int sheet, int sort, int from, int n) {
        if (!isSheet(sheet) || !isSort(sort) || !within(n, 0, Mill.DRUMS)) {
            return BAD;
        }
        Sheet row = sheets[sheet];
        if (row.sort == Sheet.MISSING) {
            return NOTHING;
        }
        if (row.sort != sort) {
            return OTHER_SORT;
        }
        int came = 0;
        for (int k = 0; k < n; k++) {
            if (!within(from, 0, row.size - 1 - k)) {
                return OUTSIDE;
            }
            if (drum(row.items[from + k]) >= 0) {
                came++;
            }
        }
        return came;
    }

    public int taken(int belt, int k) {
        if (!isKind(k)) {
            return BAD;
        }
        if (!isBelt(belt)) {
            return NOTHING;
        }
        Belt asked = mill.belts[belt];
        return isOfKind(asked, k) ? asked.grip : OTHER_SORT;
    }

    // ---- what the calls ask of their numbers

    private static boolean within(int v, int from, int to) {
        return from <= v && v <= to;
    }

    private static int asBit(boolean is) {
        return is ? 1 : 0;
    }

    /** The place of the lowest bit that is set; NONE. */
    private static int lowestBit(int bits) {
        for (int i = 0; i < BITS; i++) {
            if ((bits >> i & 1) == 1) {
                return i;
            }
        }
        return NONE;
    }

    private boolean isShaft(int shaft) {
        return within(shaft, 0, mill.shaftCount - 1);
    }

    private boolean isMachine(int machine) {
        return within(machine, 0, mill.machineCount - 1);
    }

    private boolean isDrum(int drum) {
        return within(drum, 0, mill.drumCount - 1);
    }

    private boolean isBelt(int belt) {
        return within(belt, 0, mill.beltCount - 1);
    }

    private static boolean isKind(int kind) {
        return within(kind, Belt.BELT, Belt.TWIST);
    }

    private static boolean isSheet(int sheet) {
        return within(sheet, 0, SHEETS - 1);
    }

    private static boolean isSort(int sort) {
        return within(sort, Sheet.BYTES, Sheet.INTS);
    }

    // ---- kinds

    private static Belt newBelt(int kind, int driver, int driven, int grip) {
        switch (kind) {
            case Belt.CROSSED: return new Crossed(kind, driver, driven, grip);
            case Belt.IDLER: return new Idler(kind, driver, driven, grip);
            case Belt.CONE: return new Cone(kind, driver, driven, grip);
            case Belt.LOOSE: return new Loose(kind, driver, driven, grip);
            case Belt.TWIST: return new Twist(kind, driver, driven, grip);
            default: return new Belt(kind, driver, driven, grip);
        }
    }

    private static boolean isOfKind(Belt belt, int kind) {
        switch (kind) {
            case Belt.CROSSED: return belt instanceof Crossed;
            case Belt.IDLER: return belt instanceof Idler;
            case Belt.CONE: return belt instanceof Cone;
            case Belt.LOOSE: return belt instanceof Loose;
            case Belt.TWIST: return belt instanceof Twist;
            default: return true;
        }
    }

    // ---- what the rule says

    private int wear(Belt belt) {
        names[Text.KIND] = belt.kind;
        names[Text.TURNS] = mill.cutTurns(belt.driver);
        names[Text.WRAP] = belt.wrap();
        names[Text.LOAD] = mill.pull(belt);
        names[Text.SIZE] = belt.a + belt.b;
        names[Text.HOURS] = mill.mostHours(belt);
        return Math.max(0, Math.min(MOST_WEAR, texts[rule].says(Text.WEAR, names)));
    }

    private boolean minds(Machine machine, int fall) {
        names[Text.KIND] = 0;
        names[Text.TURNS] = mill.cutTurns(machine.shaft);
        names[Text.WRAP] = fall;
        names[Text.LOAD] = machine.load;
        names[Text.SIZE] = 0;
        names[Text.HOURS] = machine.hours;
        return texts[rule].says(Text.MIND, names) != 0;
    }

    private int cost(int size) {
        Arrays.fill(names, 0);
        names[Text.SIZE] = size;
        return Math.max(1, Math.min(MOST_COST, texts[rule].says(Text.WANT, names)));
    }

    // ---- CHOSEN

    private int freeBelts() {
        return Math.min(FREE_BELTS, mill.beltCount);
    }

    /** Lays CHOSEN down in the fields for it, if there is one, and leaves the belts as they are. */
    private boolean findChosen() {
        chosenWell = NONE;
        int staying = stayingDrums();
        if (staying == NONE) {
            return false;
        }
        tryDrums(0, staying, 0);
        for (int i = 0; i < freeBelts(); i++) {
            mill.putDrum(mill.belts[i], 1, mill.belts[i].drivenDrum);
        }
        return chosenWell != NONE;
    }

    /** The drums (bits) at the ends that are not free; NONE, if one is at two of them. */
    private int stayingDrums() {
        int bits = 0;
        for (int i = 0; i < mill.beltCount; i++) {
            Belt belt = mill.belts[i];
            int ends = 1 << belt.driverDrum;
            if (i >= FREE_BELTS) {
                ends |= 1 << belt.drivenDrum;
            }
            if ((bits & ends) != 0) {
                return NONE;
            }
            bits |= ends;
        }
        return bits;
    }

    /** Gives the free belts from one on each drum that is not used yet, the least first. */
    private void tryDrums(int belt, int used, int changed) {
        if (belt >= freeBelts()) {
            weigh(changed);
            return;
        }
        Belt free = mill.belts[belt];
        for (int drum = 0; drum < mill.drumCount; drum++) {
            if ((used >> drum & 1) == 0) {
                tried[belt] = drum;
                // The size alone is tried: drivenDrum still tells which drum the belt has.
                free.b = mill.sizes[drum];
                tryDrums(belt + 1, used | 1 << drum, drum == free.drivenDrum ? changed : changed + 1);
            }
        }
    }

    private void weigh(int changed) {
        mill.spin();
        int well = Integer.bitCount(mill.wellRunning());
        if (well > chosenWell || well == chosenWell && changed < chosenChanged) {
            chosenWell = well;
            chosenChanged = changed;
            System.arraycopy(tried, 0, chosen, 0, FREE_BELTS);
        }
    }

    // ---- OFF, BITE, YEARS, START

    /** The machines (bits) that turn, and would not if a belt were off. */
    private int stoppedBy(Belt belt) {
        mill.spin();
        int now = mill.turning();
        boolean was = belt.on;
        belt.on = false;
        mill.spin();
        int then = mill.turning();
        belt.on = was;
        return now & ~then;
    }

    /** The machines (bits) that are on, turn, and mind how their turns fall when so much is loaded. */
    private int minding(int loaded) {
        if (loaded <= mill.power) {
            return 0;
        }
        int running = mill.switchedOn() & mill.turning();
        long excess = loaded - mill.power;
        int bits = 0;
        for (int i = 0; i < mill.machineCount; i++) {
            Machine machine = mill.machines[i];
            int fall = (int) (excess * mill.cutTurns(machine.shaft) / loaded);
            if ((running >> i & 1) == 1 && minds(machine, fall)) {
                bits |= 1 << i;
            }
        }
        return bits;
    }

    private int days(Belt belt, int worn) {
        int wear = wear(belt);
        return wear == 0 ? NONE : (worn + wear - 1) / wear;
    }

    private int firstWorn(int worn) {
        int found = NONE;
        int fewest = 0;
        for (int i = 0; i < mill.beltCount; i++) {
            int days = days(mill.belts[i], worn);
            if (days != NONE && (found == NONE || days < fewest)) {
                found = i;
                fewest = days;
            }
        }
        return found;
    }

    /** The first order, as digits, in which all belts that are on can be thrown on; NONE. */
    private int firstOrder() {
        int digits = 0;
        int thrown = 0;
        int turning = 1;
        for (int left = mill.beltsOn(); left > 0; left--) {
            int next = firstOnTurning(turning, thrown);
            if (next == NONE) {
                return NONE;
            }
            digits = digits * 10 + next;
            thrown |= 1 << next;
            turning |= 1 << mill.belts[next].driven;
        }
        return digits;
    }

    /** The first belt that is on, not among the thrown ones (bits), by one of the turning shafts (bits). */
    private int firstOnTurning(int turning, int thrown) {
        for (int i = 0; i < mill.beltCount; i++) {
            Belt belt = mill.belts[i];
            if (belt.on && (thrown >> i & 1) == 0 && (turning >> belt.driver & 1) == 1) {
                return i;
            }
        }
        return NONE;
    }

    /** A belt, when it is thrown on, turns one shaft alone: those behind it come later in any order. */
    private int mostJerk() {
        int most = 0;
        for (int i = 0; i < mill.beltCount; i++) {
            Belt belt = mill.belts[i];
            if (belt.on) {
                most = Math.max(most, mill.loadedOn(1 << belt.driven));
            }
        }
        return most;
    }

    /** Shafts, machines, drums and belts, and how they run. After a change spin() comes first. */
    private static final class Mill {
        static final int SHAFTS = 8, MACHINES = 10, DRUMS = 12, BELTS = 7;
        private static final int MOST_CUT_TURNS = 1000000;
        /** All shafts, as bits. */
        private static final int ALL = (1 << SHAFTS) - 1;
        /** Above what the common divisor of two longs can need. */
        private static final int MOST_DIVISIONS = 200;

        int shaftCount, machineCount, drumCount, beltCount;
        private final int[] places = new int[SHAFTS];
        private final int[] bends = new int[SHAFTS];
        /** By shaft: the belt that drives it, on or off; NONE. */
        final int[] drivenBy = new int[SHAFTS];
        /** By shaft: its turns as a fraction, not in lowest terms: under 1000 * 101^7, so a long holds it. */
        final long[] above = new long[SHAFTS];
        final long[] below = new long[SHAFTS];
        final int[] ways = new int[SHAFTS];
        final Machine[] machines = new Machine[MACHINES];
        final int[] sizes = new int[DRUMS];
        final Belt[] belts = new Belt[BELTS];
        /** The belts so that each stands behind the one that drives the shaft it hangs on. */
        private final int[] order = new int[BELTS];
        int engineTurns = 100, power = 1000;
        private int keptTurns, keptPower;

        int addShaft(int place, int bending) {
            places[shaftCount] = place;
            bends[shaftCount] = bending;
            drivenBy[shaftCount] = NONE;
            below[shaftCount] = 1;
            return shaftCount++;
        }

        int addMachine(Machine machine) {
            machines[machineCount] = machine;
            return machineCount++;
        }

        int addDrum(int size) {
            sizes[drumCount] = size;
            return drumCount++;
        }

        int addBelt(Belt belt) {
            belts[beltCount] = belt;
            drivenBy[belt.driven] = beltCount;
            beltCount++;
            orderBelts();
            return beltCount - 1;
        }

        void putDrum(Belt belt, int end, int drum) {
            if (end == 0) {
                belt.driverDrum = drum;
                belt.a = sizes[drum];
            } else {
                belt.drivenDrum = drum;
                belt.b = sizes[drum];
            }
        }

        /** No shaft drives itself, so each round finds one belt more at least. */
        private void orderBelts() {
            int found = 0;
            int count = 0;
            for (int round = 0; round < beltCount; round++) {
                for (int i = 0; i < beltCount; i++) {
                    int ahead = drivenBy[belts[i].driver];
                    boolean ready = ahead == NONE || (found >> ahead & 1) == 1;
                    if (ready && (found >> i & 1) == 0) {
                        found |= 1 << i;
                        order[count] = i;
                        count++;
                    }
                }
            }
        }

        /** Whether a shaft drives another one, by belts on or off. */
        boolean drives(int shaft, int other) {
            int at = other;
            for (int step = 0; step < SHAFTS && at != shaft && drivenBy[at] != NONE; step++) {
                at = belts[drivenBy[at]].driver;
            }
            return at == shaft;
        }

        /** Lays down how all shafts turn. */
        void spin() {
            for (int shaft = 0; shaft < shaftCount; shaft++) {
                above[shaft] = 0;
                below[shaft] = 1;
                ways[shaft] = 0;
            }
            above[0] = engineTurns;
            ways[0] = 1;
            for (int i = 0; i < beltCount; i++) {
                Belt belt = belts[order[i]];
                if (belt.on) {
                    above[belt.driven] = above[belt.driver] * belt.above();
                    below[belt.driven] = below[belt.driver] * belt.below();
                    ways[belt.driven] = ways[belt.driver] * belt.way();
                }
            }
        }

        int cutTurns(int shaft) {
            return (int) Math.min(MOST_CUT_TURNS, above[shaft] / Math.max(1, below[shaft]));
        }

        /** The greatest one of both parts of a shaft's turns, and 1 at least. */
        long commonDivisor(int shaft) {
            long larger = above[shaft];
            long smaller = below[shaft];
            for (int i = 0; i < MOST_DIVISIONS && smaller != 0; i++) {
                long rest = larger % smaller;
                larger = smaller;
                smaller = rest;
            }
            return Math.max(1, larger);
        }

        /** How far the shafts of a belt are from each other. */
        int apart(Belt belt) {
            return Math.abs(places[belt.driver] - places[belt.driven]);
        }

        /** The machines (bits) that run well. */
        int wellRunning() {
            int bits = 0;
            for (int i = 0; i < machineCount; i++) {
                Machine machine = machines[i];
                if (!machine.on || machine.wants(above[machine.shaft], below[machine.shaft])) {
                    bits |= 1 << i;
                }
            }
            return bits;
        }

        /** The machines (bits), on or off, whose shaft turns. */
        int turning() {
            int bits = 0;
            for (int i = 0; i < machineCount; i++) {
                if (above[machines[i].shaft] > 0) {
                    bits |= 1 << i;
                }
            }
            return bits;
        }

        /** The machines (bits) that are on. */
        int switchedOn() {
            return machinesOn(ALL);
        }

        /** The machines (bits) that are on, on some shafts (bits). */
        int machinesOn(int shafts) {
            int bits = 0;
            for (int i = 0; i < machineCount; i++) {
                if (machines[i].on && (shafts >> machines[i].shaft & 1) == 1) {
                    bits |= 1 << i;
                }
            }
            return bits;
        }

        int loadedInAll() {
            return loadedOn(ALL);
        }

        /** What the machines on some shafts (bits) load, together. */
        int loadedOn(int shafts) {
            int sum = 0;
            int asked = machinesOn(shafts);
            for (int i = 0; i < machineCount; i++) {
                if ((asked >> i & 1) == 1) {
                    sum += (int) ((long) machines[i].load * cutTurns(machines[i].shaft) / 100);
                }
            }
            return sum;
        }

        /** A shaft and those that are driven from it by belts that are on (bits). */
        int shaftsFrom(int shaft) {
            int bits = 1 << shaft;
            for (int i = 0; i < beltCount; i++) {
                Belt belt = belts[order[i]];
                if (belt.on && (bits >> belt.driver & 1) == 1) {
                    bits |= 1 << belt.driven;
                }
            }
            return bits;
        }

        int pull(Belt belt) {
            return belt.on ? loadedOn(shaftsFrom(belt.driven)) : 0;
        }

        int mostHours(Belt belt) {
            int most = 0;
            int asked = belt.on ? machinesOn(shaftsFrom(belt.driven)) : 0;
            for (int i = 0; i < machineCount; i++) {
                if ((asked >> i & 1) == 1) {
                    most = Math.max(most, machines[i].hours);
                }
            }
            return most;
        }

        boolean slips(Belt belt) {
            return pull(belt) > belt.grip * belt.wrap() / 50;
        }

        /** What all belts at a shaft pull, together. */
        int pulls(int shaft) {
            int sum = 0;
            for (int i = 0; i < beltCount; i++) {
                if (belts[i].driver == shaft || belts[i].driven == shaft) {
                    sum += pull(belts[i]);
                }
            }
            return sum;
        }

        boolean isBent(int shaft) {
            return pulls(shaft) > bends[shaft];
        }

        int beltsOn() {
            int sum = 0;
            for (int i = 0; i < beltCount; i++) {
                if (belts[i].on) {
                    sum++;
                }
            }
            return sum;
        }

        int firstSlipping() {
            for (int i = 0; i < beltCount; i++) {
                if (slips(belts[i])) {
                    return i;
                }
            }
            return NONE;
        }

        int firstBent() {
            for (int shaft = 0; shaft < shaftCount; shaft++) {
                if (isBent(shaft)) {
                    return shaft;
                }
            }
            return NONE;
        }

        /** The first drum that is on two belts. */
        int firstSharedDrum() {
            int seen = 0;
            int shared = 0;
            for (int i = 0; i < beltCount; i++) {
                int ends = 1 << belts[i].driverDrum | 1 << belts[i].drivenDrum;
                shared |= seen & ends;
                seen |= ends;
            }
            return lowestBit(shared);
        }

        void keep() {
            keptTurns = engineTurns;
            keptPower = power;
            for (int i = 0; i < beltCount; i++) {
                belts[i].keep();
            }
            for (int i = 0; i < machineCount; i++) {
                machines[i].keep();
            }
        }

        void restore() {
            engineTurns = keptTurns;
            power = keptPower;
            for (int i = 0; i < beltCount; i++) {
                restoreBelt(belts[i]);
            }
            for (int i = 0; i < machineCount; i++) {
                machines[i].restore();
            }
        }

        private void restoreBelt(Belt belt) {
            if (belt.isKept) {
                putDrum(belt, 0, belt.keptDriverDrum);
                putDrum(belt, 1, belt.keptDrivenDrum);
                belt.on = belt.keptOn;
            }
        }
    }

    /** A machine on a shaft, with what an image keeps of it. */
    private static final class Machine {
        final int shaft;
        private final int from, to;
        int load, hours;
        boolean on = true;
        private boolean isKept, keptOn;
        private int keptLoad;

        Machine(int shaft, int from, int to) {
            this.shaft = shaft;
            this.from = from;
            this.to = to;
        }

        /** Whether it wants turns of a fraction. */
        boolean wants(long above, long below) {
            return from * below <= above && above <= to * below;
        }

        void keep() {
            isKept = true;
            keptOn = on;
            keptLoad = load;
        }

        void restore() {
            if (isKept) {
                on = keptOn;
                load = keptLoad;
            }
        }
    }

    /** A belt from a drum of size a on the shaft that drives to one of size b on the driven one. */
    private static class Belt {
        static final int BELT = 0, CROSSED = 1, IDLER = 2, CONE = 3, LOOSE = 4, TWIST = 5;

        final int kind, driver, driven, grip;
        int driverDrum, drivenDrum;
        int a, b;
        boolean on = true;
        boolean isKept, keptOn;
        int keptDriverDrum, keptDrivenDrum;

        Belt(int kind, int driver, int driven, int grip) {
            this.kind = kind;
            this.driver = driver;
            this.driven = driven;
            this.grip = grip;
        }

        int above() {
            return a;
        }

        int below() {
            return b;
        }

        int way() {
            return 1;
        }

        int wrap() {
            return Math.max(10, 50 - Math.abs(b - a));
        }

        int length(int apart) {
            return plainLength(apart);
        }

        final int plainLength(int apart) {
            return 2 * apart + 3 * (a + b) / 2;
        }

        void keep() {
            isKept = true;
            keptOn = on;
            keptDriverDrum = driverDrum;
            keptDrivenDrum = drivenDrum;
        }
    }

    private static class Crossed extends Belt {
        Crossed(int kind, int driver, int driven, int grip) {
            super(kind, driver, driven, grip);
        }

        int way() {
            return -1;
        }

        int wrap() {
            return super.wrap() + 20;
        }

        int length(int apart) {
            return plainLength(apart) + a + b;
        }
    }

    private static class Idler extends Belt {
        Idler(int kind, int driver, int driven, int grip) {
            super(kind, driver, driven, grip);
        }

        int wrap() {
            return super.wrap() + 15;
        }

        int length(int apart) {
            return plainLength(apart) + 10;
        }
    }

    private static final class Cone extends Belt {
        Cone(int kind, int driver, int driven, int grip) {
            super(kind, driver, driven, grip);
        }

        int above() {
            return a + 2;
        }
    }

    private static final class Loose extends Idler {
        Loose(int kind, int driver, int driven, int grip) {
            super(kind, driver, driven, grip);
        }

        int wrap() {
            return super.wrap() - 5;
        }

        int length(int apart) {
            return plainLength(apart);
        }
    }

    private static final class Twist extends Crossed {
        Twist(int kind, int driver, int driven, int grip) {
            super(kind, driver, driven, grip);
        }

        int way() {
            return -super.way();
        }

        int wrap() {
            return super.wrap() / 2;
        }
    }

    /** A text as steps over a stack of values: a number, a name (below 0), or a sign (below the names). */
    private static final class Text {
        static final int WEAR = 0, MIND = 1, WANT = 2, PARTS = 3;
        static final int KIND = 0, TURNS = 1, WRAP = 2, LOAD = 3, SIZE = 4, HOURS = 5, NAMES = 6;
        static final char OR = '|', AND = '&', NOT = '!', MINUS = '~';
        /** Between two values of a tape's 160 bytes there is a sign at least. */
        private static final int MOST_VALUES = 80;

        private final int[] steps = new int[Reader.TAPE];
        private int stepCount;
        private final int[] ends = new int[PARTS];
        private final int[] values = new int[MOST_VALUES];
        private int valueCount;

        void clear() {
            stepCount = 0;
        }

        void addNumber(int number) {
            add(number);
        }

        void addName(int name) {
            add(-1 - name);
        }

        void addSign(int sign) {
            add(-sign);
        }

        private void add(int step) {
            if (stepCount < steps.length) {
                steps[stepCount] = step;
                stepCount++;
            }
        }

        void endPart(int part) {
            ends[part] = stepCount;
        }

        int says(int part, int[] names) {
            valueCount = 0;
            for (int i = part == 0 ? 0 : ends[part - 1]; i < ends[part]; i++) {
                int step = steps[i];
                if (step >= 0) {
                    push(step);
                } else if (step >= -NAMES) {
                    push(names[-1 - step]);
                } else {
                    work(-step);
                }
            }
            return pop();
        }

        private void work(int sign) {
            int right = pop();
            switch (sign) {
                case NOT: push(right == 0 ? 1 : 0); break;
                case MINUS: push(-right); break;
                default: push(joined(pop(), sign, right)); break;
            }
        }

        private static int joined(int left, int sign, int right) {
            switch (sign) {
                case OR: return left != 0 || right != 0 ? 1 : 0;
                case AND: return left != 0 && right != 0 ? 1 : 0;
                case '<': return left < right ? 1 : 0;
                case '=': return left == right ? 1 : 0;
                case '+': return left + right;
                case '-': return left - right;
                default: return left * right;
            }
        }

        private void push(int value) {
            if (valueCount < values.length) {
                values[valueCount] = value;
                valueCount++;
            }
        }

        private int pop() {
            if (valueCount == 0) {
                return 0;
            }
            valueCount--;
            return values[valueCount];
        }
    }

    /** THE TAPE, and how a text is read from it. A reading method answers whether it found no fault. */
    private static final class Reader {
        static final int TAPE = 160;
        private static final int MOST_OPEN = 5, MOST_DIGITS = 4;
        private static final String SIGNS = "();+-*<=";
        /** The names in Text's order, then the keys in the order of their tokens; each as wide as WIDE. */
        private static final String WORDS =
            "kind  turns wrap  load  size  hours wear  mind  want  or    and   not   ";
        private static final int WORD_COUNT = 12, WIDE = 6;
        /** Tokens; a sign is its own. */
        private static final int END = 0, BROKEN = 1, NUMBER = 2, NAME = 3;
        private static final int WEAR = 4, OR = 7, AND = 8, NOT = 9;

        private final int[] tape = new int[TAPE];
        int fed;
        private int at;
        private int token;
        private int tokenPlace;
        private int tokenValue;
        private Text text;

        /** Puts the lowest byte of a number behind the tape. */
        void take(int number) {
            if (fed < TAPE) {
                tape[fed] = number & 255;
                fed++;
            }
        }

        /** Reads the tape, which is empty then: the place of its fault, or NONE. */
        int readInto(Text into) {
            text = into;
            text.clear();
            at = 0;
            next();
            boolean right = true;
            for (int part = 0; part < Text.PARTS && right; part++) {
                right = readPart(part);
            }
            right = right && token == END;
            fed = 0;
            return right ? NONE : tokenPlace;
        }

        private boolean readPart(int part) {
            if (token != WEAR + part) {
                return false;
            }
            next();
            if (!readEither(0) || token != ';') {
                return false;
            }
            next();
            text.endPart(part);
            return true;
        }

        private boolean readEither(int open) {
            boolean right = readBoth(open);
            for (int i = 0; i < TAPE && right && token == OR; i++) {
                next();
                right = readBoth(open);
                text.addSign(Text.OR);
            }
            return right;
        }

        private boolean readBoth(int open) {
            boolean right = readNot(open);
            for (int i = 0; i < TAPE && right && token == AND; i++) {
                next();
                right = readNot(open);
                text.addSign(Text.AND);
            }
            return right;
        }

        private boolean readNot(int open) {
            if (token != NOT) {
                return readCompared(open);
            }
            if (open >= MOST_OPEN) {
                return false;
            }
            next();
            boolean right = readNot(open + 1);
            text.addSign(Text.NOT);
            return right;
        }

        private boolean readCompared(int open) {
            boolean right = readSum(open);
            int sign = token;
            if (right && (sign == '<' || sign == '=')) {
                next();
                right = readSum(open);
                text.addSign(sign);
            }
            return right;
        }

        private boolean readSum(int open) {
            boolean right = readTerm(open);
            for (int i = 0; i < TAPE && right && (token == '+' || token == '-'); i++) {
                int sign = token;
                next();
                right = readTerm(open);
                text.addSign(sign);
            }
            return right;
        }

        private boolean readTerm(int open) {
            boolean right = readOne(open);
            for (int i = 0; i < TAPE && right && token == '*'; i++) {
                next();
                right = readOne(open);
                text.addSign('*');
            }
            return right;
        }

        private boolean readOne(int open) {
            switch (token) {
                case NUMBER:
                    text.addNumber(tokenValue);
                    next();
                    return true;
                case NAME:
                    text.addName(tokenValue);
                    next();
                    return true;
                case '-':
                    return open < MOST_OPEN && readNegated(open + 1);
                case '(':
                    return open < MOST_OPEN && readBracketed(open + 1);
                default:
                    return false;
            }
        }

        private boolean readNegated(int open) {
            next();
            boolean right = readOne(open);
            text.addSign(Text.MINUS);
            return right;
        }

        private boolean readBracketed(int open) {
            next();
            if (!readEither(open) || token != ')') {
                return false;
            }
            next();
            return true;
        }

        private void next() {
            while (at < fed && (tape[at] == ' ' || tape[at] == '\n')) {
                at++;
            }
            tokenPlace = at;
            if (at >= fed) {
                token = END;
            } else if (isDigit(tape[at])) {
                nextNumber();
            } else if (isLetter(tape[at])) {
                nextWord();
            } else {
                token = SIGNS.indexOf((char) tape[at]) >= 0 ? tape[at] : BROKEN;
                at++;
            }
        }

        private void nextNumber() {
            tokenValue = 0;
            while (at < fed && isDigit(tape[at])) {
                tokenValue = tokenValue * 10 + tape[at] - '0';
                at++;
            }
            token = at - tokenPlace <= MOST_DIGITS ? NUMBER : BROKEN;
        }

        private void nextWord() {
            while (at < fed && isLetter(tape[at])) {
                at++;
            }
            token = BROKEN;
            for (int word = 0; word < WORD_COUNT; word++) {
                if (isWord(word)) {
                    tokenValue = word;
                    token = word < Text.NAMES ? NAME : WEAR + word - Text.NAMES;
                }
            }
        }

        /** Whether a word of WORDS stands from the token's place till where the reading is. */
        private boolean isWord(int word) {
            int size = at - tokenPlace;
            if (size >= WIDE) {
                return false;
            }
            for (int i = 0; i < WIDE; i++) {
                int due = i < size ? tape[tokenPlace + i] : ' ';
                if (WORDS.charAt(word * WIDE + i) != due) {
                    return false;
                }
            }
            return true;
        }

        private static boolean isDigit(int sign) {
            return '0' <= sign && sign <= '9';
        }

        private static boolean isLetter(int sign) {
            return 'a' <= sign && sign <= 'z';
        }
    }

    /** A row of numbers of a sort, or nothing. */
    private static final class Sheet {
        static final int MISSING = -1, BYTES = 0, SHORTS = 1, INTS = 2;
        static final int MOST = 40;

        int sort = MISSING;
        int size;
        final int[] items = new int[MOST];

        void become(int newSort, int newSize) {
            sort = newSort;
            size = newSize;
            Arrays.fill(items, 0);
        }

        void put(int i, int v) {
            switch (sort) {
                case BYTES: items[i] = (byte) v; break;
                case SHORTS: items[i] = (short) v; break;
                default: items[i] = v; break;
            }
        }

        /** Whether n items stand from item i on. */
        boolean holds(int i, int n) {
            return i >= 0 && n >= 0 && n <= size && i <= size - n;
        }
    }
}
