/**
 * Each throws clause of the document: the least and the greatest number that is taken, those that are refused beside
 * them and far away, which exception comes if several apply, and that a refused call changes nothing.
 */
public final class RefusedTest extends ShipCheck {
    private static final Class<RuntimeException> TAKEN = null;

    /** The ships on which calls are refused. */
    private enum Made {
        /** A switchboard alone. */
        FRESH,
        /** Three boxes, two lanterns, two faults, three signs and four saved states. */
        SMALL,
        /** Twelve boxes, 16 lanterns, 8 faults, 50 spare fuses, 100000 hours, 60 signs and six saved states. */
        FULL,
        /** Two boxes, and no spare fuse is left. */
        SPENT;

        ShipLanterns make() {
            switch (this) {
                case FRESH: return new ShipLanterns();
                case SMALL: return small();
                case FULL: return full();
                default: return spent();
            }
        }
    }

    /** A call with the one argument that is looked at. */
    private interface Call {
        long on(ShipLanterns ship, int x);
    }

    public static void main(String[] args) {
        begin("RefusedTest");
        made();
        addBox();
        toggleAndCross();
        replace();
        buyFuses();
        hang();
        takeDown();
        fault();
        mend();
        burn();
        append();
        load();
        undo();
        box();
        terminal();
        lantern();
        faultAt();
        count();
        poles();
        ifFault();
        ifToggled();
        neededRating();
        check.end();
    }

    private static ShipLanterns small() {
        ShipLanterns ship = planned("0>9,8;1%20,21;2*3;1!4;2#0,5;0#1,6");
        ship.cross(1);
        ship.burn(5);
        ship.replace(2, 1, 17);
        type(ship, "0>5");
        return ship;
    }

    private static ShipLanterns full() {
        ShipLanterns ship = new ShipLanterns();
        for (int i = 0; i < 2; i++) {
            ship.buyFuses(20);
        }
        for (int number = 1; number < 12; number++) {
            ship.addBox(number / 2, 60, 50 + number % 3, number % 4 == 1);
        }
        for (int number = 0; number < 15; number++) {
            ship.hang(number % 12, 1 + number % 9, number % 3 == 0);
        }
        for (int thousand = 0; thousand < 100; thousand++) {
            ship.burn(1000);
        }
        for (int number = 0; number < 7; number++) {
            ship.fault(11 - number, number % 2, 1 + number);
        }
        ship.cross(3);
        ship.toggle(7);
        ship.hang(11, 9, true);
        ship.fault(0, 0, 30);
        for (int i = 0; i < 60; i++) {
            ship.append(33 + i);
        }
        return ship;
    }

    private static ShipLanterns spent() {
        ShipLanterns ship = new ShipLanterns();
        ship.addBox(0, 60, 60, false);
        ship.hang(0, 9, false);
        ship.hang(1, 9, false);
        ship.fault(1, 0, 30);
        for (int spare = 10; spare > 0; spare--) {
            ship.replace(1, spare % 2, spare);
        }
        return ship;
    }

    /** What the ships are made for: a limit that is missed would make a test below mean nothing. */
    private static void made() {
        counts(Made.FRESH.make(), "of FRESH", 1, 0, 0, 0, 0, 0, 10, 0, 0, 0, 0, 0);
        counts(Made.SMALL.make(), "of SMALL", 3, 2, 1, 2, 5, 0, 9, 0, 5, 15, 25, 4);
        ShipLanterns full = Made.FULL.make();
        due("boxes of FULL", full.count(0), 12);
        due("lanterns of FULL", full.count(1), 16);
        due("faults of FULL", full.count(3), 8);
        due("spare fuses of FULL", full.count(6), 50);
        due("hours of FULL", full.count(8), 100000);
        due("saved states of FULL", full.count(11), 6);
        due("signs of FULL", full.clearBuffer(), 60);
        due("spare fuses of SPENT", Made.SPENT.make().count(6), 0);
        due("saved states of SPENT", Made.SPENT.make().count(11), 6);
    }

    /** The whole ship, and all that undo brings back, one after the other. */
    private static String told(ShipLanterns ship) {
        StringBuilder told = new StringBuilder();
        told.append(ship.digest());
        while (ship.count(11) > 0) {
            ship.undo();
            told.append(' ').append(ship.digest());
        }
        return told.toString();
    }

    private static String said(String call, Made made, int x) {
        return call.replaceAll("\\bx\\b", String.valueOf(x)) + " on " + made;
    }

    private static void same(String call, ShipLanterns ship, Made made) {
        check.dueText("the ship behind " + call, told(ship), told(made.make()));
    }

    private static void refuses(Made made, String call, Class<? extends RuntimeException> kind, Call run, int x) {
        String said = said(call, made, x);
        ShipLanterns ship = made.make();
        check.dueThrow(said, kind, () -> run.on(ship, x));
        same(said, ship, made);
    }

    /** The arguments from least to most bring the one thing, all others the other. */
    private static void ends(Made made, String call, int least, int most, Class<? extends RuntimeException> inside,
            Class<? extends RuntimeException> outside, Call run) {
        for (int x : new int[] {least, most}) {
            if (inside == TAKEN) {
                ShipLanterns ship = made.make();
                check.dueThrow(said(call, made, x), TAKEN, () -> run.on(ship, x));
            } else {
                refuses(made, call, inside, run, x);
            }
        }
        for (int x : new int[] {least - 1, most + 1, most + 2, Integer.MIN_VALUE, Integer.MAX_VALUE}) {
            refuses(made, call, outside, run, x);
        }
    }

    /** The same for a call that only tells: it changes nothing where it is taken either. */
    private static void tells(Made made, String call, int least, int most, Class<? extends RuntimeException> outside,
            Call run) {
        ends(made, call, least, most, TAKEN, outside, run);
        for (int x = least; x <= most; x++) {
            ShipLanterns ship = made.make();
            run.on(ship, x);
            same(said(call, made, x), ship, made);
        }
    }

    /** "There are at most 12 boxes", "a rating of 1 to 60". */
    private static void addBox() {
        ends(Made.FRESH, "addBox(x, 9, 9, false)", 0, 0, TAKEN, INDEX, (s, x) -> s.addBox(x, 9, 9, false));
        ends(Made.SMALL, "addBox(x, 9, 9, true)", 0, 2, TAKEN, INDEX, (s, x) -> s.addBox(x, 9, 9, true));
        ends(Made.SMALL, "addBox(2, x, 9, false)", 1, 60, TAKEN, ARGUMENT, (s, x) -> s.addBox(2, x, 9, false));
        ends(Made.SMALL, "addBox(2, 9, x, false)", 1, 60, TAKEN, ARGUMENT, (s, x) -> s.addBox(2, 9, x, false));
        ends(Made.SMALL, "addBox(x, 0, 9, false)", 0, 2, ARGUMENT, INDEX, (s, x) -> s.addBox(x, 0, 9, false));
        ends(Made.SMALL, "addBox(x, 9, 61, false)", 0, 2, ARGUMENT, INDEX, (s, x) -> s.addBox(x, 9, 61, false));
        ends(Made.FULL, "addBox(x, 9, 9, false)", 0, 11, STATE, INDEX, (s, x) -> s.addBox(x, 9, 9, false));
        ends(Made.FULL, "addBox(11, x, 9, true)", 1, 60, STATE, ARGUMENT, (s, x) -> s.addBox(11, x, 9, true));
        ends(Made.FULL, "addBox(11, 9, x, true)", 1, 60, STATE, ARGUMENT, (s, x) -> s.addBox(11, 9, x, true));
        ends(Made.FULL, "addBox(x, 61, 0, false)", 0, 11, ARGUMENT, INDEX, (s, x) -> s.addBox(x, 61, 0, false));
    }

    /** "If there is no such box, or it is the switchboard". */
    private static void toggleAndCross() {
        for (int x = -1; x < 2; x++) {
            refuses(Made.FRESH, "toggle(x)", INDEX, ShipLanterns::toggle, x);
            refuses(Made.FRESH, "cross(x)", INDEX, ShipLanterns::cross, x);
        }
        ends(Made.SMALL, "toggle(x)", 1, 2, TAKEN, INDEX, ShipLanterns::toggle);
        ends(Made.FULL, "toggle(x)", 1, 11, TAKEN, INDEX, ShipLanterns::toggle);
        ends(Made.SMALL, "cross(x)", 1, 2, TAKEN, INDEX, ShipLanterns::cross);
        ends(Made.FULL, "cross(x)", 1, 11, TAKEN, INDEX, ShipLanterns::cross);
    }

    /** "If there are no spare fuses" comes behind the fuse that is not there and the rating out of range. */
    private static void replace() {
        for (int x = -1; x < 2; x++) {
            refuses(Made.FRESH, "replace(x, 0, 9)", INDEX, (s, y) -> s.replace(y, 0, 9), x);
        }
        ends(Made.SMALL, "replace(x, 0, 9)", 1, 2, TAKEN, INDEX, (s, x) -> s.replace(x, 0, 9));
        ends(Made.SMALL, "replace(1, x, 9)", 0, 1, TAKEN, INDEX, (s, x) -> s.replace(1, x, 9));
        ends(Made.SMALL, "replace(1, 1, x)", 1, 60, TAKEN, ARGUMENT, (s, x) -> s.replace(1, 1, x));
        ends(Made.SMALL, "replace(x, 1, 61)", 1, 2, ARGUMENT, INDEX, (s, x) -> s.replace(x, 1, 61));
        ends(Made.FULL, "replace(x, 1, 9)", 1, 11, TAKEN, INDEX, (s, x) -> s.replace(x, 1, 9));
        ends(Made.SPENT, "replace(x, 0, 9)", 1, 1, STATE, INDEX, (s, x) -> s.replace(x, 0, 9));
        ends(Made.SPENT, "replace(1, x, 9)", 0, 1, STATE, INDEX, (s, x) -> s.replace(1, x, 9));
        ends(Made.SPENT, "replace(1, 0, x)", 1, 60, STATE, ARGUMENT, (s, x) -> s.replace(1, 0, x));
        ends(Made.SPENT, "replace(x, 0, 0)", 1, 1, ARGUMENT, INDEX, (s, x) -> s.replace(x, 0, 0));
        ends(Made.SPENT, "replace(1, x, 61)", 0, 1, ARGUMENT, INDEX, (s, x) -> s.replace(1, x, 61));
    }

    /** "1 to 20", "if there would be more than 50". */
    private static void buyFuses() {
        ends(Made.FRESH, "buyFuses(x)", 1, 20, TAKEN, ARGUMENT, ShipLanterns::buyFuses);
        ends(Made.SPENT, "buyFuses(x)", 1, 20, TAKEN, ARGUMENT, ShipLanterns::buyFuses);
        ends(Made.FULL, "buyFuses(x)", 1, 20, STATE, ARGUMENT, ShipLanterns::buyFuses);
    }

    /** "There are at most 16 lanterns", "draws 1 to 9 units". */
    private static void hang() {
        ends(Made.FRESH, "hang(x, 5, true)", 0, 0, TAKEN, INDEX, (s, x) -> s.hang(x, 5, true));
        ends(Made.SMALL, "hang(x, 5, false)", 0, 2, TAKEN, INDEX, (s, x) -> s.hang(x, 5, false));
        ends(Made.SMALL, "hang(2, x, true)", 1, 9, TAKEN, ARGUMENT, (s, x) -> s.hang(2, x, true));
        ends(Made.SMALL, "hang(x, 10, false)", 0, 2, ARGUMENT, INDEX, (s, x) -> s.hang(x, 10, false));
        ends(Made.FULL, "hang(x, 5, false)", 0, 11, STATE, INDEX, (s, x) -> s.hang(x, 5, false));
        ends(Made.FULL, "hang(0, x, false)", 1, 9, STATE, ARGUMENT, (s, x) -> s.hang(0, x, false));
        ends(Made.FULL, "hang(x, 0, true)", 0, 11, ARGUMENT, INDEX, (s, x) -> s.hang(x, 0, true));
    }

    private static void takeDown() {
        for (int x = -1; x < 2; x++) {
            refuses(Made.FRESH, "takeDown(x)", INDEX, ShipLanterns::takeDown, x);
        }
        ends(Made.SMALL, "takeDown(x)", 0, 1, TAKEN, INDEX, ShipLanterns::takeDown);
        ends(Made.FULL, "takeDown(x)", 0, 15, TAKEN, INDEX, ShipLanterns::takeDown);
    }

    /** "There are at most 8 faults", "a strength of 1 to 30". */
    private static void fault() {
        ends(Made.FRESH, "fault(x, 0, 5)", 0, 0, TAKEN, INDEX, (s, x) -> s.fault(x, 0, 5));
        ends(Made.SMALL, "fault(x, 1, 5)", 0, 2, TAKEN, INDEX, (s, x) -> s.fault(x, 1, 5));
        ends(Made.SMALL, "fault(2, x, 5)", 0, 1, TAKEN, INDEX, (s, x) -> s.fault(2, x, 5));
        ends(Made.SMALL, "fault(0, 0, x)", 1, 30, TAKEN, ARGUMENT, (s, x) -> s.fault(0, 0, x));
        ends(Made.SMALL, "fault(x, 0, 31)", 0, 2, ARGUMENT, INDEX, (s, x) -> s.fault(x, 0, 31));
        ends(Made.SMALL, "fault(1, x, 0)", 0, 1, ARGUMENT, INDEX, (s, x) -> s.fault(1, x, 0));
        ends(Made.FULL, "fault(x, 0, 5)", 0, 11, STATE, INDEX, (s, x) -> s.fault(x, 0, 5));
        ends(Made.FULL, "fault(11, x, 5)", 0, 1, STATE, INDEX, (s, x) -> s.fault(11, x, 5));
        ends(Made.FULL, "fault(11, 1, x)", 1, 30, STATE, ARGUMENT, (s, x) -> s.fault(11, 1, x));
        ends(Made.FULL, "fault(x, 0, 0)", 0, 11, ARGUMENT, INDEX, (s, x) -> s.fault(x, 0, 0));
        ends(Made.FULL, "fault(0, x, 31)", 0, 1, ARGUMENT, INDEX, (s, x) -> s.fault(0, x, 31));
    }

    private static void mend() {
        for (int x = -1; x < 2; x++) {
            refuses(Made.FRESH, "mend(x)", INDEX, ShipLanterns::mend, x);
        }
        ends(Made.SMALL, "mend(x)", 0, 1, TAKEN, INDEX, ShipLanterns::mend);
        ends(Made.FULL, "mend(x)", 0, 7, TAKEN, INDEX, ShipLanterns::mend);
    }

    /** "1 to 1000", "if there would be more than 100000 hours". */
    private static void burn() {
        ends(Made.FRESH, "burn(x)", 1, 1000, TAKEN, ARGUMENT, ShipLanterns::burn);
        ends(Made.SMALL, "burn(x)", 1, 1000, TAKEN, ARGUMENT, ShipLanterns::burn);
        ends(Made.FULL, "burn(x)", 1, 1000, STATE, ARGUMENT, ShipLanterns::burn);
    }

    /** "33 to 126", "the buffer has at most 60 characters". */
    private static void append() {
        ends(Made.FRESH, "append(x)", 33, 126, TAKEN, ARGUMENT, ShipLanterns::append);
        ends(Made.SMALL, "append(x)", 33, 126, TAKEN, ARGUMENT, ShipLanterns::append);
        ends(Made.FULL, "append(x)", 33, 126, STATE, ARGUMENT, ShipLanterns::append);
    }

    /** "If the buffer is not a complete plan": empty, not yet at its end, or with an error. */
    private static void load() {
        for (Made made : Made.values()) {
            refuses(made, "load()", ARGUMENT, (s, x) -> s.load(), 0);
        }
    }

    private static void undo() {
        refuses(Made.FRESH, "undo()", STATE, (s, x) -> s.undo(), 0);
        ShipLanterns emptied = Made.FULL.make();
        for (int left = 5; left >= 0; left--) {
            due("undo() on FULL", emptied.undo(), left);
        }
        thrown(emptied, "a seventh undo() on FULL", STATE, emptied::undo);
    }

    private static void box() {
        tells(Made.FRESH, "box(x, 4)", 0, 0, INDEX, (s, x) -> s.box(x, 4));
        tells(Made.SMALL, "box(x, 5)", 0, 2, INDEX, (s, x) -> s.box(x, 5));
        tells(Made.FULL, "box(x, 6)", 0, 11, INDEX, (s, x) -> s.box(x, 6));
        tells(Made.FRESH, "box(0, x)", 0, 6, ARGUMENT, (s, x) -> s.box(0, x));
        tells(Made.SMALL, "box(2, x)", 0, 6, ARGUMENT, (s, x) -> s.box(2, x));
        ends(Made.SMALL, "box(x, 7)", 0, 2, ARGUMENT, INDEX, (s, x) -> s.box(x, 7));
        ends(Made.FULL, "box(x, -1)", 0, 11, ARGUMENT, INDEX, (s, x) -> s.box(x, -1));
    }

    private static void terminal() {
        tells(Made.FRESH, "terminal(x, 1, 2)", 0, 0, INDEX, (s, x) -> s.terminal(x, 1, 2));
        tells(Made.SMALL, "terminal(x, 0, 2)", 0, 2, INDEX, (s, x) -> s.terminal(x, 0, 2));
        tells(Made.FULL, "terminal(x, 1, 2)", 0, 11, INDEX, (s, x) -> s.terminal(x, 1, 2));
        tells(Made.FRESH, "terminal(0, x, 0)", 0, 1, INDEX, (s, x) -> s.terminal(0, x, 0));
        tells(Made.SMALL, "terminal(2, x, 3)", 0, 1, INDEX, (s, x) -> s.terminal(2, x, 3));
        tells(Made.FRESH, "terminal(0, 1, x)", 0, 5, ARGUMENT, (s, x) -> s.terminal(0, 1, x));
        tells(Made.SMALL, "terminal(2, 0, x)", 0, 5, ARGUMENT, (s, x) -> s.terminal(2, 0, x));
        ends(Made.SMALL, "terminal(x, 0, 6)", 0, 2, ARGUMENT, INDEX, (s, x) -> s.terminal(x, 0, 6));
        ends(Made.SMALL, "terminal(2, x, -1)", 0, 1, ARGUMENT, INDEX, (s, x) -> s.terminal(2, x, -1));
    }

    private static void lantern() {
        for (int x = -1; x < 2; x++) {
            refuses(Made.FRESH, "lantern(x, 0)", INDEX, (s, y) -> s.lantern(y, 0), x);
        }
        refuses(Made.FRESH, "lantern(x, 4)", INDEX, (s, x) -> s.lantern(x, 4), 0);
        tells(Made.SMALL, "lantern(x, 3)", 0, 1, INDEX, (s, x) -> s.lantern(x, 3));
        tells(Made.FULL, "lantern(x, 3)", 0, 15, INDEX, (s, x) -> s.lantern(x, 3));
        tells(Made.SMALL, "lantern(1, x)", 0, 3, ARGUMENT, (s, x) -> s.lantern(1, x));
        ends(Made.SMALL, "lantern(x, 4)", 0, 1, ARGUMENT, INDEX, (s, x) -> s.lantern(x, 4));
        ends(Made.FULL, "lantern(x, -1)", 0, 15, ARGUMENT, INDEX, (s, x) -> s.lantern(x, -1));
    }

    private static void faultAt() {
        for (int x = -1; x < 2; x++) {
            refuses(Made.FRESH, "faultAt(x, 0)", INDEX, (s, y) -> s.faultAt(y, 0), x);
        }
        refuses(Made.FRESH, "faultAt(x, 5)", INDEX, (s, x) -> s.faultAt(x, 5), 0);
        tells(Made.SMALL, "faultAt(x, 4)", 0, 1, INDEX, (s, x) -> s.faultAt(x, 4));
        tells(Made.FULL, "faultAt(x, 4)", 0, 7, INDEX, (s, x) -> s.faultAt(x, 4));
        tells(Made.SMALL, "faultAt(1, x)", 0, 4, ARGUMENT, (s, x) -> s.faultAt(1, x));
        ends(Made.SMALL, "faultAt(x, 5)", 0, 1, ARGUMENT, INDEX, (s, x) -> s.faultAt(x, 5));
        ends(Made.FULL, "faultAt(x, -1)", 0, 7, ARGUMENT, INDEX, (s, x) -> s.faultAt(x, -1));
    }

    private static void count() {
        for (Made made : Made.values()) {
            tells(made, "count(x)", 0, 11, ARGUMENT, ShipLanterns::count);
        }
    }

    /** "If there is no such pole". */
    private static void poles() {
        for (Made made : Made.values()) {
            tells(made, "lamp(x)", 0, 1, INDEX, ShipLanterns::lamp);
            tells(made, "locate(x)", 0, 1, INDEX, ShipLanterns::locate);
        }
    }

    /** "The limit of 8 faults does not matter". */
    private static void ifFault() {
        tells(Made.FRESH, "ifFault(x, 0, 5, 0)", 0, 0, INDEX, (s, x) -> s.ifFault(x, 0, 5, 0));
        tells(Made.SMALL, "ifFault(x, 0, 30, 1)", 0, 2, INDEX, (s, x) -> s.ifFault(x, 0, 30, 1));
        tells(Made.FULL, "ifFault(x, 1, 30, 2)", 0, 11, INDEX, (s, x) -> s.ifFault(x, 1, 30, 2));
        tells(Made.SMALL, "ifFault(2, x, 30, 0)", 0, 1, INDEX, (s, x) -> s.ifFault(2, x, 30, 0));
        tells(Made.SMALL, "ifFault(1, 0, x, 0)", 1, 30, ARGUMENT, (s, x) -> s.ifFault(1, 0, x, 0));
        tells(Made.SMALL, "ifFault(2, 0, 30, x)", 0, 3, ARGUMENT, (s, x) -> s.ifFault(2, 0, 30, x));
        tells(Made.FULL, "ifFault(11, 0, x, 3)", 1, 30, ARGUMENT, (s, x) -> s.ifFault(11, 0, x, 3));
        tells(Made.FULL, "ifFault(11, 0, 30, x)", 0, 3, ARGUMENT, (s, x) -> s.ifFault(11, 0, 30, x));
        ends(Made.SMALL, "ifFault(x, 0, 31, 0)", 0, 2, ARGUMENT, INDEX, (s, x) -> s.ifFault(x, 0, 31, 0));
        ends(Made.SMALL, "ifFault(x, 0, 5, 4)", 0, 2, ARGUMENT, INDEX, (s, x) -> s.ifFault(x, 0, 5, 4));
        ends(Made.SMALL, "ifFault(1, x, 0, 0)", 0, 1, ARGUMENT, INDEX, (s, x) -> s.ifFault(1, x, 0, 0));
        ends(Made.SMALL, "ifFault(1, x, 5, -1)", 0, 1, ARGUMENT, INDEX, (s, x) -> s.ifFault(1, x, 5, -1));
    }

    private static void ifToggled() {
        for (int x = -1; x < 2; x++) {
            refuses(Made.FRESH, "ifToggled(x)", INDEX, ShipLanterns::ifToggled, x);
        }
        tells(Made.SMALL, "ifToggled(x)", 1, 2, INDEX, ShipLanterns::ifToggled);
        tells(Made.FULL, "ifToggled(x)", 1, 11, INDEX, ShipLanterns::ifToggled);
    }

    private static void neededRating() {
        for (int x = -1; x < 2; x++) {
            refuses(Made.FRESH, "neededRating(x, 0)", INDEX, (s, y) -> s.neededRating(y, 0), x);
        }
        tells(Made.SMALL, "neededRating(x, 0)", 1, 2, INDEX, (s, x) -> s.neededRating(x, 0));
        tells(Made.FULL, "neededRating(x, 1)", 1, 11, INDEX, (s, x) -> s.neededRating(x, 1));
        tells(Made.SMALL, "neededRating(2, x)", 0, 1, INDEX, (s, x) -> s.neededRating(2, x));
        tells(Made.SPENT, "neededRating(1, x)", 0, 1, INDEX, (s, x) -> s.neededRating(1, x));
    }
}
