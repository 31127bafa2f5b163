import java.util.ArrayDeque;
import java.util.ArrayList;
import java.util.Deque;
import java.util.List;
import java.util.regex.Matcher;
import java.util.regex.Pattern;

/**
 * The document once more, as slowly and as literally as it can be said: nothing is kept that can be found by walking
 * the cables. RunTest holds ShipLanterns against it.
 */
public final class PlainShip {
    private static final String RATING = "(?:[1-5][0-9]?|60?|[7-9])";
    private static final String BOX = "(?:0|1[01]?|[2-9])";
    private static final String STRENGTH = "(?:[12][0-9]?|30?|[4-9])";
    private static final String PART = BOX + "(?:[>%]" + RATING + "," + RATING + "|[*!][1-9]|#[01]," + STRENGTH + ")";
    private static final Pattern PLAN = Pattern.compile(PART + "(?:;" + PART + ")*");

    private static final class Box {
        int parent;
        boolean crossed;
        boolean closed = true;
        int[] rating = new int[2];
        boolean[] blown = new boolean[2];
    }

    private static final class Lantern {
        int box;
        int units;
        boolean particular;
    }

    private static final class Fault {
        int box;
        int terminal;
        int strength;
    }

    private static final class State {
        final List<Box> boxes = new ArrayList<>();
        final List<Lantern> lanterns = new ArrayList<>();
        final List<Fault> faults = new ArrayList<>();
        int spare = 10;
        int blownSoFar;
        int hours;
        int used;
        int lost;

        void addBox(int parent, int rating, int other, boolean crossed) {
            Box box = new Box();
            box.parent = parent;
            box.crossed = crossed;
            box.rating[0] = rating;
            box.rating[1] = other;
            boxes.add(box);
        }

        void hang(int at, int units, boolean particular) {
            Lantern lantern = new Lantern();
            lantern.box = at;
            lantern.units = units;
            lantern.particular = particular;
            lanterns.add(lantern);
        }

        void fault(int at, int terminal, int strength) {
            Fault fault = new Fault();
            fault.box = at;
            fault.terminal = terminal;
            fault.strength = strength;
            faults.add(fault);
        }

        State copy() {
            State copy = new State();
            for (Box box : boxes) {
                copy.addBox(box.parent, box.rating[0], box.rating[1], box.crossed);
                Box last = copy.boxes.get(copy.boxes.size() - 1);
                last.closed = box.closed;
                last.blown = box.blown.clone();
            }
            for (Lantern lantern : lanterns) {
                copy.hang(lantern.box, lantern.units, lantern.particular);
            }
            for (Fault fault : faults) {
                copy.fault(fault.box, fault.terminal, fault.strength);
            }
            copy.spare = spare;
            copy.blownSoFar = blownSoFar;
            copy.hours = hours;
            copy.used = used;
            copy.lost = lost;
            return copy;
        }

        int feeder(int box, int terminal) {
            return boxes.get(box).crossed ? 1 - terminal : terminal;
        }

        int pole(int box, int terminal) {
            return box == 0 ? terminal : pole(boxes.get(box).parent, feeder(box, terminal));
        }

        boolean alive(int box, int terminal) {
            if (box == 0) {
                return true;
            }
            Box it = boxes.get(box);
            return it.closed && !it.blown[terminal] && alive(it.parent, feeder(box, terminal));
        }

        boolean openOnWay(int box) {
            return box != 0 && (!boxes.get(box).closed || openOnWay(boxes.get(box).parent));
        }

        boolean blownOnWay(int box, int terminal) {
            return box != 0 && (boxes.get(box).blown[terminal]
                    || blownOnWay(boxes.get(box).parent, feeder(box, terminal)));
        }

        int depth(int box) {
            return box == 0 ? 0 : 1 + depth(boxes.get(box).parent);
        }

        boolean atOrBehind(int one, int box) {
            return one == box || one != 0 && atOrBehind(boxes.get(one).parent, box);
        }

        /** Is the terminal of one the terminal of box, or connected to it from behind? */
        boolean wiredTo(int one, int oneTerminal, int box, int terminal) {
            if (one == box) {
                return oneTerminal == terminal;
            }
            return one != 0 && wiredTo(boxes.get(one).parent, feeder(one, oneTerminal), box, terminal);
        }

        boolean burns(Lantern lantern) {
            return alive(lantern.box, 0) && alive(lantern.box, 1)
                    && (!lantern.particular || pole(lantern.box, 0) == 0);
        }

        int burning() {
            int many = 0;
            for (Lantern lantern : lanterns) {
                many += burns(lantern) ? 1 : 0;
            }
            return many;
        }

        int lamp(int pole) {
            int sum = 0;
            for (Fault fault : faults) {
                if (alive(fault.box, fault.terminal) && pole(fault.box, fault.terminal) == pole) {
                    sum += fault.strength;
                }
            }
            return sum;
        }

        int leak() {
            return Math.min(lamp(0), lamp(1));
        }

        int flow(Fault wanted) {
            int pole = pole(wanted.box, wanted.terminal);
            int left = leak();
            for (Fault fault : faults) {
                boolean takes = alive(fault.box, fault.terminal) && pole(fault.box, fault.terminal) == pole;
                int share = takes ? Math.min(fault.strength, left) : 0;
                if (fault == wanted) {
                    return share;
                }
                left -= share;
            }
            throw new AssertionError("a fault that is not there");
        }

        int current(int box, int terminal) {
            if (!alive(box, terminal)) {
                return 0;
            }
            int sum = 0;
            for (Lantern lantern : lanterns) {
                if (burns(lantern) && atOrBehind(lantern.box, box)) {
                    sum += lantern.units;
                }
            }
            for (Fault fault : faults) {
                if (wiredTo(fault.box, fault.terminal, box, terminal)) {
                    sum += flow(fault);
                }
            }
            return sum;
        }

        /** The box and terminal of the fuse that blows next, or null. */
        int[] nextFuse() {
            for (int depth = 12; depth > 0; depth--) {
                for (int box = 1; box < boxes.size(); box++) {
                    for (int terminal = 0; terminal < 2; terminal++) {
                        if (depth(box) == depth && alive(box, terminal)
                                && current(box, terminal) > boxes.get(box).rating[terminal]) {
                            return new int[] {box, terminal};
                        }
                    }
                }
            }
            return null;
        }

        int settle() {
            int before = blownSoFar;
            for (int[] fuse = nextFuse(); fuse != null; fuse = nextFuse()) {
                boxes.get(fuse[0]).blown[fuse[1]] = true;
                blownSoFar++;
            }
            return blownSoFar - before;
        }
    }

    private State now = new State();
    private final Deque<State> saved = new ArrayDeque<>();
    private String buffer = "";

    public PlainShip() {
        now.addBox(-1, -1, -1, false);
    }

    private void save() {
        saved.addLast(now.copy());
        if (saved.size() > 6) {
            saved.removeFirst();
        }
    }

    private void index(boolean holds) {
        if (!holds) {
            throw new IndexOutOfBoundsException();
        }
    }

    private void argument(int value, int least, int most) {
        if (value < least || value > most) {
            throw new IllegalArgumentException();
        }
    }

    private void state(boolean holds) {
        if (!holds) {
            throw new IllegalStateException();
        }
    }

    private void needBox(int box) {
        index(box >= 0 && box < now.boxes.size());
    }

    private void needFedBox(int box) {
        needBox(box);
        index(box != 0);
    }

    private void needTerminal(int terminal) {
        index(terminal == 0 || terminal == 1);
    }

    public int addBox(int parent, int rating, int other, boolean crossed) {
        needBox(parent);
        argument(rating, 1, 60);
        argument(other, 1, 60);
        state(now.boxes.size() < 12);
        save();
        now.addBox(parent, rating, other, crossed);
        now.settle();
        return now.boxes.size() - 1;
    }

    public int toggle(int box) {
        needFedBox(box);
        save();
        now.boxes.get(box).closed ^= true;
        now.settle();
        return now.boxes.get(box).closed ? 1 : 0;
    }

    public int cross(int box) {
        needFedBox(box);
        save();
        now.boxes.get(box).crossed ^= true;
        now.settle();
        return now.burning();
    }

    public int replace(int box, int terminal, int rating) {
        needFedBox(box);
        needTerminal(terminal);
        argument(rating, 1, 60);
        state(now.spare > 0);
        save();
        now.spare--;
        now.boxes.get(box).rating[terminal] = rating;
        now.boxes.get(box).blown[terminal] = false;
        now.settle();
        return now.boxes.get(box).blown[terminal] ? 0 : 1;
    }

    public int buyFuses(int many) {
        argument(many, 1, 20);
        state(now.spare + many <= 50);
        save();
        now.spare += many;
        return now.spare;
    }

    public int hang(int box, int units, boolean particular) {
        needBox(box);
        argument(units, 1, 9);
        state(now.lanterns.size() < 16);
        save();
        now.hang(box, units, particular);
        now.settle();
        return now.lanterns.size() - 1;
    }

    public int takeDown(int lantern) {
        index(lantern >= 0 && lantern < now.lanterns.size());
        save();
        int burned = now.burns(now.lanterns.get(lantern)) ? 1 : 0;
        now.lanterns.remove(lantern);
        now.settle();
        return burned;
    }

    public int fault(int box, int terminal, int strength) {
        needBox(box);
        needTerminal(terminal);
        argument(strength, 1, 30);
        state(now.faults.size() < 8);
        save();
        now.fault(box, terminal, strength);
        return now.settle();
    }

    public int mend(int fault) {
        index(fault >= 0 && fault < now.faults.size());
        save();
        int strength = now.faults.remove(fault).strength;
        now.settle();
        return strength;
    }

    public int burn(int hours) {
        argument(hours, 1, 1000);
        state(now.hours + hours <= 100000);
        save();
        int used = 0;
        for (Lantern lantern : now.lanterns) {
            used += now.burns(lantern) ? lantern.units * hours : 0;
        }
        now.hours += hours;
        now.used += used;
        now.lost += now.leak() * hours;
        return used;
    }

    public int append(int code) {
        argument(code, 33, 126);
        state(buffer.length() < 60);
        buffer += (char) code;
        return buffer.length();
    }

    public int clearBuffer() {
        int length = buffer.length();
        buffer = "";
        return length;
    }

    public int firstError() {
        for (int i = 1; i <= buffer.length(); i++) {
            Matcher matcher = PLAN.matcher(buffer.substring(0, i));
            if (!matcher.matches() && !matcher.hitEnd()) {
                return i - 1;
            }
        }
        return buffer.length();
    }

    public int load() {
        if (!PLAN.matcher(buffer).matches()) {
            throw new IllegalArgumentException();
        }
        save();
        int added = 0;
        for (String part : buffer.split(";")) {
            if (!addPart(part)) {
                break;
            }
            now.settle();
            added++;
        }
        buffer = "";
        return added;
    }

    private boolean addPart(String part) {
        String[] numbers = part.split("[>%*!#,]");
        int box = Integer.parseInt(numbers[0]);
        int one = Integer.parseInt(numbers[1]);
        char kind = part.charAt(numbers[0].length());
        if (box >= now.boxes.size()) {
            return false;
        }
        if (kind == '*' || kind == '!') {
            if (now.lanterns.size() == 16) {
                return false;
            }
            now.hang(box, one, kind == '!');
            return true;
        }
        int two = Integer.parseInt(numbers[2]);
        if (kind == '#') {
            if (now.faults.size() == 8) {
                return false;
            }
            now.fault(box, one, two);
            return true;
        }
        if (now.boxes.size() == 12) {
            return false;
        }
        now.addBox(box, one, two, kind == '%');
        return true;
    }

    public int undo() {
        state(!saved.isEmpty());
        now = saved.removeLast();
        return saved.size();
    }

    public int box(int box, int what) {
        needBox(box);
        argument(what, 0, 6);
        Box it = now.boxes.get(box);
        int behind = -1;
        for (int other = 0; other < now.boxes.size(); other++) {
            behind += now.atOrBehind(other, box) ? 1 : 0;
        }
        int burning = 0;
        int units = 0;
        for (Lantern lantern : now.lanterns) {
            burning += lantern.box == box && now.burns(lantern) ? 1 : 0;
            units += lantern.box == box ? lantern.units : 0;
        }
        int crossed = box == 0 ? -1 : it.crossed ? 1 : 0;
        int closed = box == 0 ? -1 : it.closed ? 1 : 0;
        return new int[] {it.parent, crossed, closed, now.depth(box), behind, burning, units}[what];
    }

    public int terminal(int box, int terminal, int what) {
        needBox(box);
        needTerminal(terminal);
        argument(what, 0, 5);
        Box it = now.boxes.get(box);
        int strengths = 0;
        for (Fault fault : now.faults) {
            strengths += fault.box == box && fault.terminal == terminal ? fault.strength : 0;
        }
        int blown = box == 0 ? -1 : it.blown[terminal] ? 1 : 0;
        return new int[] {now.pole(box, terminal), now.alive(box, terminal) ? 1 : 0, now.current(box, terminal),
                it.rating[terminal], blown, strengths}[what];
    }

    public int lantern(int lantern, int what) {
        index(lantern >= 0 && lantern < now.lanterns.size());
        argument(what, 0, 3);
        Lantern it = now.lanterns.get(lantern);
        int reason = now.burns(it) ? 0
                : now.openOnWay(it.box) ? 1
                : now.blownOnWay(it.box, 0) ? 2
                : now.blownOnWay(it.box, 1) ? 3
                : 4;
        return new int[] {it.box, it.units, it.particular ? 1 : 0, reason}[what];
    }

    public int faultAt(int fault, int what) {
        index(fault >= 0 && fault < now.faults.size());
        argument(what, 0, 4);
        Fault it = now.faults.get(fault);
        return new int[] {it.box, it.terminal, it.strength, now.pole(it.box, it.terminal), now.flow(it)}[what];
    }

    public int count(int what) {
        argument(what, 0, 11);
        int blown = 0;
        for (Box box : now.boxes) {
            blown += (box.blown[0] ? 1 : 0) + (box.blown[1] ? 1 : 0);
        }
        return new int[] {now.boxes.size(), now.lanterns.size(), now.burning(), now.faults.size(), now.leak(), blown,
                now.spare, now.blownSoFar, now.hours, now.used, now.lost, saved.size()}[what];
    }

    public int lamp(int pole) {
        needTerminal(pole);
        return now.lamp(pole);
    }

    public int locate(int pole) {
        needTerminal(pole);
        int mask = 0;
        for (int box = 1; box < now.boxes.size(); box++) {
            State trial = now.copy();
            boolean closed = trial.boxes.get(box).closed;
            trial.boxes.get(box).closed = false;
            if (closed && trial.lamp(pole) != now.lamp(pole)) {
                mask += 1 << box;
            }
        }
        return mask;
    }

    public int ifFault(int box, int terminal, int strength, int what) {
        needBox(box);
        needTerminal(terminal);
        argument(strength, 1, 30);
        argument(what, 0, 3);
        State trial = now.copy();
        trial.fault(box, terminal, strength);
        int[] first = trial.nextFuse();
        int blown = trial.settle();
        return new int[] {blown, trial.burning(), trial.leak(),
                first == null ? -1 : 100 * first[0] + 10 * first[1]}[what];
    }

    public int ifToggled(int box) {
        needFedBox(box);
        State trial = now.copy();
        trial.boxes.get(box).closed ^= true;
        trial.settle();
        return trial.burning();
    }

    public int neededRating(int box, int terminal) {
        needFedBox(box);
        needTerminal(terminal);
        State trial = now.copy();
        for (Box each : trial.boxes) {
            each.blown = new boolean[2];
        }
        return trial.current(box, terminal);
    }

    public double lossShare() {
        int sum = count(9) + count(10);
        return sum == 0 ? 0.0 : (double) count(10) / sum;
    }

    public long digest() {
        List<Long> values = new ArrayList<>();
        for (int what = 0; what < 12; what++) {
            values.add((long) count(what));
        }
        for (int box = 0; box < now.boxes.size(); box++) {
            for (int what = 0; what < 7; what++) {
                values.add((long) box(box, what));
            }
            for (int terminal = 0; terminal < 2; terminal++) {
                for (int what = 0; what < 6; what++) {
                    values.add((long) terminal(box, terminal, what));
                }
            }
        }
        for (int lantern = 0; lantern < now.lanterns.size(); lantern++) {
            for (int what = 0; what < 4; what++) {
                values.add((long) lantern(lantern, what));
            }
        }
        for (int fault = 0; fault < now.faults.size(); fault++) {
            for (int what = 0; what < 5; what++) {
                values.add((long) faultAt(fault, what));
            }
        }
        for (int pole = 0; pole < 2; pole++) {
            values.add((long) lamp(pole));
            values.add((long) locate(pole));
        }
        for (int box = 1; box < now.boxes.size(); box++) {
            values.add((long) ifToggled(box));
            values.add((long) neededRating(box, 0));
            values.add((long) neededRating(box, 1));
        }
        values.add(Double.doubleToLongBits(lossShare()));
        values.add((long) buffer.length());
        for (char sign : buffer.toCharArray()) {
            values.add((long) sign);
        }
        long hash = 2141;
        for (long value : values) {
            hash = 31 * hash + value;
        }
        return hash;
    }
}
