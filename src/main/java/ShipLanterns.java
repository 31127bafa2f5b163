/**
 * The lanterns of a ship on two wires that are both kept clear of the hull.
 *
 * All rows are made in constructors and used again, because all calls of one run share one room of memory.
 * A row of terminals holds the terminal t of the box b at the index 2 * b + t.
 */
public final class ShipLanterns {
    public static final int NONE = -1;

    private static final int MAX_BOXES = 12;
    private static final int MAX_TERMINALS = 2 * MAX_BOXES;
    private static final int MAX_LANTERNS = 16;
    private static final int MAX_FAULTS = 8;
    /** One more than there may be, because ifFault tries a fault beyond the limit. */
    private static final int FAULT_ROOM = MAX_FAULTS + 1;
    private static final int MAX_RATING = 60;
    private static final int MAX_UNITS = 9;
    private static final int MAX_STRENGTH = 30;
    private static final int FIRST_SPARES = 10;
    private static final int MAX_SPARES = 50;
    private static final int MAX_BOUGHT = 20;
    private static final int MAX_HOURS = 100000;
    private static final int MAX_HOURS_AT_ONCE = 1000;
    private static final int MAX_SIGNS = 60;
    private static final int FIRST_CODE = 33;
    private static final int LAST_CODE = 126;
    private static final int MAX_SAVED = 6;

    private static final int COUNTS = 12;
    private static final int BOX_PROPERTIES = 7;
    private static final int TERMINAL_PROPERTIES = 6;
    private static final int LANTERN_PROPERTIES = 4;
    private static final int FAULT_PROPERTIES = 5;
    private static final int FAULT_QUESTIONS = 4;

    private static final long FIRST_HASH = 2141L;
    private static final int HASH_FACTOR = 31;
    private static final int DOUBLE_BIAS = 1023;
    private static final int DOUBLE_FRACTION_BITS = 52;

    private final Ship ship = new Ship();
    /** What follows from the ship as it is; it is taken anew whenever the ship's wires, lanterns or faults change. */
    private final Survey survey = new Survey();
    private final Ship trial = new Ship();
    private final Survey trialSurvey = new Survey();
    private final Survey wholeSurvey = new Survey();
    private final History history = new History();
    private final PartReader reader = new PartReader();
    private final int[] signs = new int[MAX_SIGNS];
    private int length = 0;

    public ShipLanterns() {
    }

    // ---- boxes

    public int addBox(int parent, int rating, int other, boolean crossed)
            throws IndexOutOfBoundsException, IllegalArgumentException, IllegalStateException {
        if (!isBox(parent)) {
            throw new IndexOutOfBoundsException("there is no such parent");
        }
        if (!isRating(rating) || !isRating(other)) {
            throw new IllegalArgumentException("a rating is 1 to 60");
        }
        if (ship.cables.boxes >= MAX_BOXES) {
            throw new IllegalStateException("there are 12 boxes");
        }
        history.save(ship);
        ship.cables.add(parent, rating, other, crossed);
        settle(ship, survey);
        return ship.cables.boxes - 1;
    }

    public int toggle(int box) throws IndexOutOfBoundsException {
        if (!isFedBox(box)) {
            throw new IndexOutOfBoundsException("no cable feeds such a box");
        }
        history.save(ship);
        ship.cables.closed[box] = !ship.cables.closed[box];
        settle(ship, survey);
        return oneIf(ship.cables.closed[box]);
    }

    public int cross(int box) throws IndexOutOfBoundsException {
        if (!isFedBox(box)) {
            throw new IndexOutOfBoundsException("no cable feeds such a box");
        }
        history.save(ship);
        ship.cables.crossed[box] = !ship.cables.crossed[box];
        settle(ship, survey);
        return survey.burningLanterns;
    }

    public int replace(int box, int terminal, int rating)
            throws IndexOutOfBoundsException, IllegalArgumentException, IllegalStateException {
        if (!isFedBox(box) || !isTerminal(terminal)) {
            throw new IndexOutOfBoundsException("there is no such fuse");
        }
        if (!isRating(rating)) {
            throw new IllegalArgumentException("a rating is 1 to 60");
        }
        if (ship.spareFuses <= 0) {
            throw new IllegalStateException("there are no spare fuses");
        }
        history.save(ship);
        int fuse = 2 * box + terminal;
        ship.spareFuses--;
        ship.cables.rating[fuse] = rating;
        ship.cables.blown[fuse] = false;
        settle(ship, survey);
        return oneIf(!ship.cables.blown[fuse]);
    }

    public int buyFuses(int many) throws IllegalArgumentException, IllegalStateException {
        if (many < 1 || many > MAX_BOUGHT) {
            throw new IllegalArgumentException("1 to 20 fuses are bought at once");
        }
        if (ship.spareFuses + many > MAX_SPARES) {
            throw new IllegalStateException("there would be more than 50 spare fuses");
        }
        history.save(ship);
        ship.spareFuses += many;
        return ship.spareFuses;
    }

    // ---- lanterns and faults

    public int hang(int box, int units, boolean particular)
            throws IndexOutOfBoundsException, IllegalArgumentException, IllegalStateException {
        if (!isBox(box)) {
            throw new IndexOutOfBoundsException("there is no such box");
        }
        if (units < 1 || units > MAX_UNITS) {
            throw new IllegalArgumentException("a lantern draws 1 to 9 units");
        }
        if (ship.lanterns.many >= MAX_LANTERNS) {
            throw new IllegalStateException("there are 16 lanterns");
        }
        history.save(ship);
        ship.lanterns.add(box, units, particular);
        settle(ship, survey);
        return ship.lanterns.many - 1;
    }

    public int takeDown(int lantern) throws IndexOutOfBoundsException {
        if (!isLantern(lantern)) {
            throw new IndexOutOfBoundsException("there is no such lantern");
        }
        history.save(ship);
        int burned = oneIf(survey.burning[lantern]);
        ship.lanterns.remove(lantern);
        settle(ship, survey);
        return burned;
    }

    public int fault(int box, int terminal, int strength)
            throws IndexOutOfBoundsException, IllegalArgumentException, IllegalStateException {
        if (!isBox(box) || !isTerminal(terminal)) {
            throw new IndexOutOfBoundsException("there is no such terminal");
        }
        if (!isStrength(strength)) {
            throw new IllegalArgumentException("a strength is 1 to 30");
        }
        if (ship.faults.many >= MAX_FAULTS) {
            throw new IllegalStateException("there are 8 faults");
        }
        history.save(ship);
        ship.faults.add(box, terminal, strength);
        return settle(ship, survey);
    }

    public int mend(int fault) throws IndexOutOfBoundsException {
        if (!isFault(fault)) {
            throw new IndexOutOfBoundsException("there is no such fault");
        }
        history.save(ship);
        int strength = ship.faults.strength[fault];
        ship.faults.remove(fault);
        settle(ship, survey);
        return strength;
    }

    public int burn(int hours) throws IllegalArgumentException, IllegalStateException {
        if (hours < 1 || hours > MAX_HOURS_AT_ONCE) {
            throw new IllegalArgumentException("1 to 1000 hours pass at once");
        }
        if (ship.hours + hours > MAX_HOURS) {
            throw new IllegalStateException("there would be more than 100000 hours");
        }
        history.save(ship);
        // All that burns draws through the switchboard.
        int used = survey.unitsFrom[0] * hours;
        ship.hours += hours;
        ship.used += used;
        ship.lost += survey.leak * hours;
        return used;
    }

    // ---- texts

    public int append(int code) throws IllegalArgumentException, IllegalStateException {
        if (code < FIRST_CODE || code > LAST_CODE) {
            throw new IllegalArgumentException("a character code is 33 to 126");
        }
        if (length >= MAX_SIGNS) {
            throw new IllegalStateException("the buffer has 60 characters");
        }
        signs[length] = code;
        length++;
        return length;
    }

    public int clearBuffer() {
        int before = length;
        length = 0;
        return before;
    }

    public int firstError() {
        return readSigns();
    }

    public int load() throws IllegalArgumentException {
        if (readSigns() < length || !reader.isComplete()) {
            throw new IllegalArgumentException("the buffer is not a complete plan");
        }
        history.save(ship);
        int added = addParts();
        length = 0;
        return added;
    }

    public int undo() throws IllegalStateException {
        if (history.many == 0) {
            throw new IllegalStateException("there is no saved state");
        }
        history.restore(ship);
        survey.take(ship);
        return history.many;
    }

    // ---- what there is

    public int box(int box, int what) throws IndexOutOfBoundsException, IllegalArgumentException {
        if (!isBox(box)) {
            throw new IndexOutOfBoundsException("there is no such box");
        }
        if (what < 0 || what >= BOX_PROPERTIES) {
            throw new IllegalArgumentException("a box has the properties 0 to 6");
        }
        return boxProperty(box, what);
    }

    public int terminal(int box, int terminal, int what) throws IndexOutOfBoundsException, IllegalArgumentException {
        if (!isBox(box) || !isTerminal(terminal)) {
            throw new IndexOutOfBoundsException("there is no such terminal");
        }
        if (what < 0 || what >= TERMINAL_PROPERTIES) {
            throw new IllegalArgumentException("a terminal has the properties 0 to 5");
        }
        return terminalProperty(box, terminal, what);
    }

    public int lantern(int lantern, int what) throws IndexOutOfBoundsException, IllegalArgumentException {
        if (!isLantern(lantern)) {
            throw new IndexOutOfBoundsException("there is no such lantern");
        }
        if (what < 0 || what >= LANTERN_PROPERTIES) {
            throw new IllegalArgumentException("a lantern has the properties 0 to 3");
        }
        return lanternProperty(lantern, what);
    }

    public int faultAt(int fault, int what) throws IndexOutOfBoundsException, IllegalArgumentException {
        if (!isFault(fault)) {
            throw new IndexOutOfBoundsException("there is no such fault");
        }
        if (what < 0 || what >= FAULT_PROPERTIES) {
            throw new IllegalArgumentException("a fault has the properties 0 to 4");
        }
        return faultProperty(fault, what);
    }

    public int count(int what) throws IllegalArgumentException {
        if (what < 0 || what >= COUNTS) {
            throw new IllegalArgumentException("the counts are 0 to 11");
        }
        return countOf(what);
    }

    // ---- what would be; nothing is changed

    public int lamp(int pole) throws IndexOutOfBoundsException {
        if (!isPole(pole)) {
            throw new IndexOutOfBoundsException("there is no such pole");
        }
        return survey.lampOf(pole);
    }

    public int locate(int pole) throws IndexOutOfBoundsException {
        if (!isPole(pole)) {
            throw new IndexOutOfBoundsException("there is no such pole");
        }
        return boxesChangingLamp(pole);
    }

    public int ifFault(int box, int terminal, int strength, int what)
            throws IndexOutOfBoundsException, IllegalArgumentException {
        if (!isBox(box) || !isTerminal(terminal)) {
            throw new IndexOutOfBoundsException("there is no such terminal");
        }
        if (!isStrength(strength) || what < 0 || what >= FAULT_QUESTIONS) {
            throw new IllegalArgumentException("a strength is 1 to 30, a question 0 to 3");
        }
        trial.copy(ship);
        trial.faults.add(box, terminal, strength);
        trialSurvey.take(trial);
        int firstFuse = trialSurvey.fuseToBlow(trial.cables);
        int blown = settle(trial, trialSurvey);
        switch (what) {
            case 0: return blown;
            case 1: return trialSurvey.burningLanterns;
            case 2: return trialSurvey.leak;
            default: return firstFuse == NONE ? NONE : 100 * (firstFuse >> 1) + 10 * (firstFuse & 1);
        }
    }

    public int ifToggled(int box) throws IndexOutOfBoundsException {
        if (!isFedBox(box)) {
            throw new IndexOutOfBoundsException("no cable feeds such a box");
        }
        return burningIfToggled(box);
    }

    public int neededRating(int box, int terminal) throws IndexOutOfBoundsException {
        if (!isFedBox(box) || !isTerminal(terminal)) {
            throw new IndexOutOfBoundsException("there is no such fuse");
        }
        surveyWithWholeFuses();
        return wholeSurvey.current(2 * box + terminal);
    }

    public double lossShare() {
        int sum = ship.used + ship.lost;
        if (sum == 0) {
            return 0.0;
        }
        return (double) ship.lost / (double) sum;
    }

    public long digest() {
        long hash = FIRST_HASH;
        for (int what = 0; what < COUNTS; what++) {
            hash = HASH_FACTOR * hash + countOf(what);
        }
        hash = hashBoxes(hash);
        hash = hashLanternsAndFaults(hash);
        for (int pole = 0; pole < 2; pole++) {
            hash = HASH_FACTOR * hash + survey.lampOf(pole);
            hash = HASH_FACTOR * hash + boxesChangingLamp(pole);
        }
        hash = hashTrials(hash);
        hash = HASH_FACTOR * hash + bitsOfShare(lossShare());
        return hashSigns(hash);
    }

    // ---- what a call may name

    private boolean isBox(int box) {
        return box >= 0 && box < ship.cables.boxes;
    }

    private boolean isFedBox(int box) {
        return box > 0 && box < ship.cables.boxes;
    }

    private boolean isLantern(int lantern) {
        return lantern >= 0 && lantern < ship.lanterns.many;
    }

    private boolean isFault(int fault) {
        return fault >= 0 && fault < ship.faults.many;
    }

    private static boolean isTerminal(int terminal) {
        return terminal == 0 || terminal == 1;
    }

    private static boolean isPole(int pole) {
        return pole == 0 || pole == 1;
    }

    private static boolean isRating(int rating) {
        return rating >= 1 && rating <= MAX_RATING;
    }

    private static boolean isStrength(int strength) {
        return strength >= 1 && strength <= MAX_STRENGTH;
    }

    private static int oneIf(boolean holds) {
        return holds ? 1 : 0;
    }

    // ---- settling and trying

    /** Leaves the survey as it is after the last fuse; returns how many fuses have blown. */
    private static int settle(Ship ship, Survey survey) {
        survey.take(ship);
        int blown = 0;
        // A blown fuse leaves its terminal dead, so none blows twice.
        while (blown < MAX_TERMINALS) {
            int fuse = survey.fuseToBlow(ship.cables);
            if (fuse == NONE) {
                return blown;
            }
            ship.cables.blown[fuse] = true;
            ship.blownSoFar++;
            blown++;
            survey.take(ship);
        }
        return blown;
    }

    private int burningIfToggled(int box) {
        trial.copy(ship);
        trial.cables.closed[box] = !trial.cables.closed[box];
        settle(trial, trialSurvey);
        return trialSurvey.burningLanterns;
    }

    private void surveyWithWholeFuses() {
        trial.copy(ship);
        for (int fuse = 0; fuse < 2 * trial.cables.boxes; fuse++) {
            trial.cables.blown[fuse] = false;
        }
        wholeSurvey.take(trial);
    }

    private int boxesChangingLamp(int pole) {
        int mask = 0;
        for (int box = 1; box < ship.cables.boxes; box++) {
            // Strengths are at least 1, so any that goes out changes the sum.
            if (ship.cables.closed[box] && survey.strengthFrom[2 * box + pole] > 0) {
                mask |= 1 << box;
            }
        }
        return mask;
    }

    // ---- reading a plan

    /** Leaves the reader behind the last sign that it took; returns the index of the first that it refused. */
    private int readSigns() {
        reader.restart();
        for (int i = 0; i < length; i++) {
            if (!reader.takes(signs[i])) {
                return i;
            }
        }
        return length;
    }

    private int addParts() {
        int added = 0;
        reader.restart();
        for (int i = 0; i < length; i++) {
            if (signs[i] == ';') {
                if (!addPart()) {
                    return added;
                }
                added++;
            }
            reader.takes(signs[i]);
        }
        return addPart() ? added + 1 : added;
    }

    /** The ranges of the numbers are the reader's care; here counts what the ship has and may have. */
    private boolean addPart() {
        int box = reader.values[0];
        if (!isBox(box)) {
            return false;
        }
        if (reader.holdsBox()) {
            if (ship.cables.boxes >= MAX_BOXES) {
                return false;
            }
            ship.cables.add(box, reader.values[1], reader.values[2], reader.kind == '%');
        } else if (reader.holdsLantern()) {
            if (ship.lanterns.many >= MAX_LANTERNS) {
                return false;
            }
            ship.lanterns.add(box, reader.values[1], reader.kind == '!');
        } else {
            if (ship.faults.many >= MAX_FAULTS) {
                return false;
            }
            ship.faults.add(box, reader.values[1], reader.values[2]);
        }
        settle(ship, survey);
        return true;
    }

    // ---- properties

    private int boxProperty(int box, int what) {
        Cables cables = ship.cables;
        switch (what) {
            case 0: return cables.parent[box];
            case 1: return box == 0 ? NONE : oneIf(cables.crossed[box]);
            case 2: return box == 0 ? NONE : oneIf(cables.closed[box]);
            case 3: return survey.depth[box];
            case 4: return survey.behind[box];
            case 5: return lanternsBurningAt(box);
            default: return unitsAt(box);
        }
    }

    private int lanternsBurningAt(int box) {
        int burning = 0;
        for (int i = 0; i < ship.lanterns.many; i++) {
            if (ship.lanterns.box[i] == box && survey.burning[i]) {
                burning++;
            }
        }
        return burning;
    }

    private int unitsAt(int box) {
        int units = 0;
        for (int i = 0; i < ship.lanterns.many; i++) {
            if (ship.lanterns.box[i] == box) {
                units += ship.lanterns.units[i];
            }
        }
        return units;
    }

    private int terminalProperty(int box, int terminal, int what) {
        int index = 2 * box + terminal;
        switch (what) {
            case 0: return survey.pole[index];
            case 1: return oneIf(survey.isAlive(index));
            case 2: return survey.current(index);
            case 3: return box == 0 ? NONE : ship.cables.rating[index];
            case 4: return box == 0 ? NONE : oneIf(ship.cables.blown[index]);
            default: return strengthsAt(box, terminal);
        }
    }

    private int strengthsAt(int box, int terminal) {
        int strengths = 0;
        for (int i = 0; i < ship.faults.many; i++) {
            if (ship.faults.box[i] == box && ship.faults.terminal[i] == terminal) {
                strengths += ship.faults.strength[i];
            }
        }
        return strengths;
    }

    private int lanternProperty(int lantern, int what) {
        switch (what) {
            case 0: return ship.lanterns.box[lantern];
            case 1: return ship.lanterns.units[lantern];
            case 2: return oneIf(ship.lanterns.particular[lantern]);
            default: return darkReason(lantern);
        }
    }

    private int darkReason(int lantern) {
        int box = ship.lanterns.box[lantern];
        if (survey.burning[lantern]) {
            return 0;
        }
        if (survey.openOnWay[box]) {
            return 1;
        }
        if (survey.blownOnWay[2 * box]) {
            return 2;
        }
        return survey.blownOnWay[2 * box + 1] ? 3 : 4;
    }

    private int faultProperty(int fault, int what) {
        Faults faults = ship.faults;
        switch (what) {
            case 0: return faults.box[fault];
            case 1: return faults.terminal[fault];
            case 2: return faults.strength[fault];
            case 3: return survey.pole[2 * faults.box[fault] + faults.terminal[fault]];
            default: return survey.flow[fault];
        }
    }

    private int countOf(int what) {
        switch (what) {
            case 0: return ship.cables.boxes;
            case 1: return ship.lanterns.many;
            case 2: return survey.burningLanterns;
            case 3: return ship.faults.many;
            case 4: return survey.leak;
            case 5: return ship.cables.blownFuses();
            case 6: return ship.spareFuses;
            case 7: return ship.blownSoFar;
            case 8: return ship.hours;
            case 9: return ship.used;
            case 10: return ship.lost;
            default: return history.many;
        }
    }

    // ---- hashing

    private long hashBoxes(long start) {
        long hash = start;
        for (int box = 0; box < ship.cables.boxes; box++) {
            for (int what = 0; what < BOX_PROPERTIES; what++) {
                hash = HASH_FACTOR * hash + boxProperty(box, what);
            }
            for (int terminal = 0; terminal < 2; terminal++) {
                for (int what = 0; what < TERMINAL_PROPERTIES; what++) {
                    hash = HASH_FACTOR * hash + terminalProperty(box, terminal, what);
                }
            }
        }
        return hash;
    }

    private long hashLanternsAndFaults(long start) {
        long hash = start;
        for (int lantern = 0; lantern < ship.lanterns.many; lantern++) {
            for (int what = 0; what < LANTERN_PROPERTIES; what++) {
                hash = HASH_FACTOR * hash + lanternProperty(lantern, what);
            }
        }
        for (int fault = 0; fault < ship.faults.many; fault++) {
            for (int what = 0; what < FAULT_PROPERTIES; what++) {
                hash = HASH_FACTOR * hash + faultProperty(fault, what);
            }
        }
        return hash;
    }

    private long hashTrials(long start) {
        long hash = start;
        surveyWithWholeFuses();
        for (int box = 1; box < ship.cables.boxes; box++) {
            hash = HASH_FACTOR * hash + burningIfToggled(box);
            hash = HASH_FACTOR * hash + wholeSurvey.current(2 * box);
            hash = HASH_FACTOR * hash + wholeSurvey.current(2 * box + 1);
        }
        return hash;
    }

    private long hashSigns(long start) {
        long hash = HASH_FACTOR * start + length;
        for (int i = 0; i < length; i++) {
            hash = HASH_FACTOR * hash + signs[i];
        }
        return hash;
    }

    /** Double.doubleToLongBits for 0.0 to 1.0, found by hand because LANGUAGE.md leaves no Double. */
    private static long bitsOfShare(double share) {
        if (share <= 0.0) {
            return 0L;
        }
        double scaled = share;
        long exponent = DOUBLE_BIAS;
        while (scaled < 1.0 && exponent > 1) {
            scaled = scaled * 2.0;
            exponent--;
        }
        // Doubling is exact, and so is the fraction as a whole number of its last place.
        long fraction = (long) ((scaled - 1.0) * (double) (1L << DOUBLE_FRACTION_BITS));
        return (exponent << DOUBLE_FRACTION_BITS) + fraction;
    }

    /** The boxes with the cables that feed them. */
    private static final class Cables {
        int boxes = 1;
        /** A parent has a lower number than its box; the switchboard has none. */
        final int[] parent = new int[MAX_BOXES];
        final boolean[] crossed = new boolean[MAX_BOXES];
        final boolean[] closed = new boolean[MAX_BOXES];
        final int[] rating = new int[MAX_TERMINALS];
        final boolean[] blown = new boolean[MAX_TERMINALS];

        Cables() {
            parent[0] = NONE;
        }

        void add(int from, int rating0, int rating1, boolean isCrossed) {
            if (boxes >= MAX_BOXES) {
                return;
            }
            parent[boxes] = from;
            crossed[boxes] = isCrossed;
            closed[boxes] = true;
            rating[2 * boxes] = rating0;
            rating[2 * boxes + 1] = rating1;
            blown[2 * boxes] = false;
            blown[2 * boxes + 1] = false;
            boxes++;
        }

        /** For a box that is fed: the index of the terminal to which its terminal is connected. */
        int connected(int box, int terminal) {
            return 2 * parent[box] + (crossed[box] ? 1 - terminal : terminal);
        }

        int blownFuses() {
            int many = 0;
            for (int fuse = 2; fuse < 2 * boxes; fuse++) {
                if (blown[fuse]) {
                    many++;
                }
            }
            return many;
        }

        void copy(Cables from) {
            boxes = from.boxes;
            for (int box = 0; box < boxes; box++) {
                parent[box] = from.parent[box];
                crossed[box] = from.crossed[box];
                closed[box] = from.closed[box];
            }
            for (int fuse = 0; fuse < 2 * boxes; fuse++) {
                rating[fuse] = from.rating[fuse];
                blown[fuse] = from.blown[fuse];
            }
        }
    }

    private static final class Lanterns {
        int many = 0;
        final int[] box = new int[MAX_LANTERNS];
        final int[] units = new int[MAX_LANTERNS];
        final boolean[] particular = new boolean[MAX_LANTERNS];

        void add(int at, int draws, boolean isParticular) {
            if (many >= MAX_LANTERNS) {
                return;
            }
            box[many] = at;
            units[many] = draws;
            particular[many] = isParticular;
            many++;
        }

        void remove(int lantern) {
            for (int i = lantern; i < many - 1; i++) {
                box[i] = box[i + 1];
                units[i] = units[i + 1];
                particular[i] = particular[i + 1];
            }
            many--;
        }

        void copy(Lanterns from) {
            many = from.many;
            for (int i = 0; i < many; i++) {
                box[i] = from.box[i];
                units[i] = from.units[i];
                particular[i] = from.particular[i];
            }
        }
    }

    private static final class Faults {
        int many = 0;
        final int[] box = new int[FAULT_ROOM];
        final int[] terminal = new int[FAULT_ROOM];
        final int[] strength = new int[FAULT_ROOM];

        void add(int at, int atTerminal, int strong) {
            if (many >= FAULT_ROOM) {
                return;
            }
            box[many] = at;
            terminal[many] = atTerminal;
            strength[many] = strong;
            many++;
        }

        void remove(int fault) {
            for (int i = fault; i < many - 1; i++) {
                box[i] = box[i + 1];
                terminal[i] = terminal[i + 1];
                strength[i] = strength[i + 1];
            }
            many--;
        }

        void copy(Faults from) {
            many = from.many;
            for (int i = 0; i < many; i++) {
                box[i] = from.box[i];
                terminal[i] = from.terminal[i];
                strength[i] = from.strength[i];
            }
        }
    }

    /** All that undo brings back. */
    private static final class Ship {
        final Cables cables = new Cables();
        final Lanterns lanterns = new Lanterns();
        final Faults faults = new Faults();
        int spareFuses = FIRST_SPARES;
        int blownSoFar = 0;
        int hours = 0;
        int used = 0;
        int lost = 0;

        void copy(Ship from) {
            cables.copy(from.cables);
            lanterns.copy(from.lanterns);
            faults.copy(from.faults);
            spareFuses = from.spareFuses;
            blownSoFar = from.blownSoFar;
            hours = from.hours;
            used = from.used;
            lost = from.lost;
        }
    }

    /** The saved states, the oldest one first. */
    private static final class History {
        int many = 0;
        private final Ship[] saved = new Ship[MAX_SAVED];

        History() {
            for (int i = 0; i < MAX_SAVED; i++) {
                saved[i] = new Ship();
            }
        }

        void save(Ship ship) {
            if (many >= MAX_SAVED) {
                dropOldest();
            }
            saved[many].copy(ship);
            many++;
        }

        void restore(Ship ship) {
            if (many > 0) {
                many--;
                ship.copy(saved[many]);
            }
        }

        private void dropOldest() {
            Ship oldest = saved[0];
            for (int i = 0; i < MAX_SAVED - 1; i++) {
                saved[i] = saved[i + 1];
            }
            saved[MAX_SAVED - 1] = oldest;
            many = MAX_SAVED - 1;
        }
    }

    /** What follows from a ship: ways, poles, what burns, what flows. Sums "from" a box are of it and all behind it. */
    private static final class Survey {
        final int[] depth = new int[MAX_BOXES];
        final int[] behind = new int[MAX_BOXES];
        final boolean[] openOnWay = new boolean[MAX_BOXES];
        final boolean[] blownOnWay = new boolean[MAX_TERMINALS];
        final int[] pole = new int[MAX_TERMINALS];
        final boolean[] burning = new boolean[MAX_LANTERNS];
        int burningLanterns = 0;
        int leak = 0;
        final int[] flow = new int[FAULT_ROOM];
        final int[] unitsFrom = new int[MAX_BOXES];
        /** These two are kept by pole instead of terminal, at 2 * box + pole. */
        final int[] flowFrom = new int[MAX_TERMINALS];
        final int[] strengthFrom = new int[MAX_TERMINALS];

        /** A new survey is that of a switchboard alone. */
        Survey() {
            pole[1] = 1;
        }

        void take(Ship ship) {
            clearSums(ship.cables.boxes);
            followCables(ship.cables);
            findBurning(ship.lanterns);
            findStrengths(ship.faults);
            sumUpStrengths(ship.cables);
            leak = Math.min(lampOf(0), lampOf(1));
            shareLeak(ship.faults, 0);
            shareLeak(ship.faults, 1);
            sumUpCurrents(ship.cables);
        }

        boolean isAlive(int terminal) {
            return !openOnWay[terminal >> 1] && !blownOnWay[terminal];
        }

        int lampOf(int ofPole) {
            return strengthFrom[ofPole];
        }

        /** The terminals connected behind a terminal are those behind its box that share its pole. */
        int current(int terminal) {
            int box = terminal >> 1;
            return isAlive(terminal) ? unitsFrom[box] + flowFrom[2 * box + pole[terminal]] : 0;
        }

        /** The fuse that blows next, or NONE. */
        int fuseToBlow(Cables cables) {
            int found = NONE;
            int foundDepth = 0;
            for (int terminal = 2; terminal < 2 * cables.boxes; terminal++) {
                int itsDepth = depth[terminal >> 1];
                if (itsDepth > foundDepth && current(terminal) > cables.rating[terminal]) {
                    found = terminal;
                    foundDepth = itsDepth;
                }
            }
            return found;
        }

        private void clearSums(int boxes) {
            for (int box = 0; box < boxes; box++) {
                behind[box] = 0;
                unitsFrom[box] = 0;
                for (int ofPole = 0; ofPole < 2; ofPole++) {
                    flowFrom[2 * box + ofPole] = 0;
                    strengthFrom[2 * box + ofPole] = 0;
                }
            }
        }

        /** No cable feeds the switchboard, so its own entries stay as they were made. */
        private void followCables(Cables cables) {
            for (int box = 1; box < cables.boxes; box++) {
                int from = cables.parent[box];
                depth[box] = depth[from] + 1;
                openOnWay[box] = !cables.closed[box] || openOnWay[from];
                for (int terminal = 0; terminal < 2; terminal++) {
                    int index = 2 * box + terminal;
                    int connected = cables.connected(box, terminal);
                    pole[index] = pole[connected];
                    blownOnWay[index] = cables.blown[index] || blownOnWay[connected];
                }
            }
            for (int box = cables.boxes - 1; box > 0; box--) {
                behind[cables.parent[box]] += behind[box] + 1;
            }
        }

        private void findBurning(Lanterns lanterns) {
            burningLanterns = 0;
            for (int i = 0; i < lanterns.many; i++) {
                int box = lanterns.box[i];
                boolean minds = lanterns.particular[i] && pole[2 * box] != 0;
                burning[i] = isAlive(2 * box) && isAlive(2 * box + 1) && !minds;
                if (burning[i]) {
                    burningLanterns++;
                    unitsFrom[box] += lanterns.units[i];
                }
            }
        }

        private void findStrengths(Faults faults) {
            for (int i = 0; i < faults.many; i++) {
                int terminal = 2 * faults.box[i] + faults.terminal[i];
                if (isAlive(terminal)) {
                    strengthFrom[2 * faults.box[i] + pole[terminal]] += faults.strength[i];
                }
            }
        }

        private void sumUpStrengths(Cables cables) {
            for (int box = cables.boxes - 1; box > 0; box--) {
                for (int ofPole = 0; ofPole < 2; ofPole++) {
                    strengthFrom[2 * cables.parent[box] + ofPole] += strengthFrom[2 * box + ofPole];
                }
            }
        }

        private void shareLeak(Faults faults, int ofPole) {
            int left = leak;
            for (int i = 0; i < faults.many; i++) {
                int terminal = 2 * faults.box[i] + faults.terminal[i];
                if (pole[terminal] == ofPole) {
                    flow[i] = isAlive(terminal) ? Math.min(faults.strength[i], left) : 0;
                    left -= flow[i];
                    flowFrom[2 * faults.box[i] + ofPole] += flow[i];
                }
            }
        }

        private void sumUpCurrents(Cables cables) {
            for (int box = cables.boxes - 1; box > 0; box--) {
                int from = cables.parent[box];
                unitsFrom[from] += unitsFrom[box];
                for (int ofPole = 0; ofPole < 2; ofPole++) {
                    flowFrom[2 * from + ofPole] += flowFrom[2 * box + ofPole];
                }
            }
        }
    }

    /** Reads a plan sign by sign, one part after the other, and takes a sign only if some plan goes on with it. */
    private static final class PartReader {
        private static final int MOST_NUMBERS = 3;

        /** The numbers of the part, NONE where no digit has come yet. */
        final int[] values = new int[MOST_NUMBERS];
        /** The sign behind the first number, 0 before it has come. */
        int kind = 0;
        private int place = 0;

        void restart() {
            kind = 0;
            place = 0;
            for (int i = 0; i < MOST_NUMBERS; i++) {
                values[i] = NONE;
            }
        }

        boolean holdsBox() {
            return kind == '>' || kind == '%';
        }

        boolean holdsLantern() {
            return kind == '*' || kind == '!';
        }

        /** Every number that was taken so far is in range already, so a part is complete with its last number. */
        boolean isComplete() {
            return kind != 0 && place == lastPlace() && values[place] != NONE;
        }

        boolean takes(int sign) {
            if (sign >= '0' && sign <= '9') {
                return takesDigit(sign - '0');
            }
            if (values[place] == NONE) {
                return false;
            }
            if (kind == 0) {
                return takesKind(sign);
            }
            return takesSeparator(sign);
        }

        private boolean takesSeparator(int sign) {
            boolean atLast = place == lastPlace();
            if (sign != (atLast ? ';' : ',')) {
                return false;
            }
            if (atLast) {
                restart();
            } else {
                place++;
            }
            return true;
        }

        private boolean takesKind(int sign) {
            if (sign != '>' && sign != '%' && sign != '*' && sign != '!' && sign != '#') {
                return false;
            }
            kind = sign;
            place = 1;
            return true;
        }

        private boolean takesDigit(int digit) {
            int before = values[place];
            int value = before == NONE ? digit : 10 * before + digit;
            if (before == 0 || value < leastValue() || value > mostValue()) {
                return false;
            }
            values[place] = value;
            return true;
        }

        private int lastPlace() {
            return holdsLantern() ? 1 : 2;
        }

        private int leastValue() {
            return place == 0 || place == 1 && kind == '#' ? 0 : 1;
        }

        private int mostValue() {
            if (place == 0) {
                return MAX_BOXES - 1;
            }
            if (kind == '#') {
                return place == 1 ? 1 : MAX_STRENGTH;
            }
            return holdsLantern() ? MAX_UNITS : MAX_RATING;
        }
    }
}
