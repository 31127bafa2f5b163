/** What the tests of answers found by hand have in common: ships made from plans, and many answers looked at at once. */
abstract class ShipCheck {
    static final Class<IndexOutOfBoundsException> INDEX = IndexOutOfBoundsException.class;
    static final Class<IllegalArgumentException> ARGUMENT = IllegalArgumentException.class;
    static final Class<IllegalStateException> STATE = IllegalStateException.class;

    static Check check;

    static void begin(String title) {
        check = new Check(title);
    }

    static void due(String call, long got, long want) {
        check.due(call, got, want);
    }

    /** The call throws, and nothing is changed by it. */
    static void thrown(ShipLanterns ship, String call, Class<? extends RuntimeException> kind, Runnable run) {
        long before = ship.digest();
        check.dueThrow(call, kind, run);
        due("digest() behind " + call, ship.digest(), before);
    }

    static void type(ShipLanterns ship, String text) {
        for (char sign : text.toCharArray()) {
            ship.append(sign);
        }
    }

    static int load(ShipLanterns ship, String plan) {
        type(ship, plan);
        return ship.load();
    }

    static ShipLanterns planned(String plan) {
        ShipLanterns ship = new ShipLanterns();
        load(ship, plan);
        return ship;
    }

    static void counts(ShipLanterns ship, String when, int... wants) {
        for (int what = 0; what < wants.length; what++) {
            due("count(" + what + ") " + when, ship.count(what), wants[what]);
        }
    }

    static void boxIs(ShipLanterns ship, int box, int... wants) {
        for (int what = 0; what < wants.length; what++) {
            due("box(" + box + ", " + what + ")", ship.box(box, what), wants[what]);
        }
    }

    static void terminalIs(ShipLanterns ship, int box, int terminal, int... wants) {
        for (int what = 0; what < wants.length; what++) {
            due("terminal(" + box + ", " + terminal + ", " + what + ")", ship.terminal(box, terminal, what),
                    wants[what]);
        }
    }

    static void lanternIs(ShipLanterns ship, int lantern, int... wants) {
        for (int what = 0; what < wants.length; what++) {
            due("lantern(" + lantern + ", " + what + ")", ship.lantern(lantern, what), wants[what]);
        }
    }

    static void faultIs(ShipLanterns ship, int fault, int... wants) {
        for (int what = 0; what < wants.length; what++) {
            due("faultAt(" + fault + ", " + what + ")", ship.faultAt(fault, what), wants[what]);
        }
    }
}
