import java.util.ArrayList;
import java.util.List;
import java.util.function.IntConsumer;
import java.util.function.Supplier;
import java.util.function.ToLongFunction;

/** The sentences of the document's terms and promises that name an edge, each by answers found by hand. */
public final class EdgeTest extends ShipCheck {
    public static void main(String[] args) {
        begin("EdgeTest");
        boxesUpToTwelve();
        lanternsUpToSixteen();
        faultsUpToEight();
        spareFuses();
        hours();
        sums();
        switchboard();
        alive();
        poles();
        burning();
        reasons();
        leak();
        flows();
        dead();
        ratings();
        leaksAndRatings();
        orderOfFuses();
        foundAnew();
        settling();
        numbersDecrease();
        undoOfSix();
        undoSaves();
        undoOfCounters();
        lampAndLocate();
        ifFault();
        ifToggled();
        neededRating();
        lossShare();
        digestOfFull();
        calls();
        check.end();
    }

    private static ShipLanterns chain(int boxes) {
        ShipLanterns ship = new ShipLanterns();
        for (int number = 1; number < boxes; number++) {
            due("addBox() of a chain", ship.addBox(number - 1, 60, 60, false), number);
        }
        return ship;
    }

    /** "At most 12 boxes, numbered from 0", "the depth is the number of cables from the switchboard". */
    private static void boxesUpToTwelve() {
        ShipLanterns ship = chain(11);
        due("addBox() of the 12th box", ship.addBox(10, 1, 60, true), 11);
        thrown(ship, "addBox() of a 13th box", STATE, () -> ship.addBox(0, 60, 60, false));
        boxIs(ship, 0, -1, -1, -1, 0, 11, 0, 0);
        boxIs(ship, 1, 0, 0, 1, 1, 10, 0, 0);
        boxIs(ship, 10, 9, 0, 1, 10, 1, 0, 0);
        boxIs(ship, 11, 10, 1, 1, 11, 0, 0, 0);
        terminalIs(ship, 11, 0, 1, 1, 0, 1, 0, 0);
        terminalIs(ship, 11, 1, 0, 1, 0, 60, 0, 0);
        due("toggle(11)", ship.toggle(11), 0);
        due("cross(11)", ship.cross(11), 0);
        due("replace(11, 1, 1)", ship.replace(11, 1, 1), 1);
        due("hang(11, 9)", ship.hang(11, 9, true), 0);
        due("fault(11, 1, 30)", ship.fault(11, 1, 30), 0);
        due("neededRating(11, 1)", ship.neededRating(11, 1), 0);
        due("ifToggled(11), by which both fuses are too weak", ship.ifToggled(11), 0);
        due("count(0)", ship.count(0), 12);
        for (int i = 0; i < 6; i++) {
            ship.undo();
        }
        due("count(0) behind undo() of the 12th box", ship.count(0), 11);
        thrown(ship, "toggle(11) of the box that was undone", INDEX, () -> ship.toggle(11));
        due("addBox() of the 12th box again", ship.addBox(0, 60, 60, false), 11);
        boxIs(ship, 11, 0, 0, 1, 1, 0, 0, 0);
        boxIs(ship, 10, 9, 0, 1, 10, 0, 0, 0);
        ShipLanterns star = new ShipLanterns();
        for (int number = 1; number < 12; number++) {
            due("addBox() of a star", star.addBox(0, number, 60 - number, false), number);
            boxIs(star, number, 0, 0, 1, 1, 0, 0, 0);
        }
        due("box(0, 4)", star.box(0, 4), 11);
    }

    /** "At most 16 lanterns, numbered from 0 in the order in which they came". */
    private static void lanternsUpToSixteen() {
        ShipLanterns ship = new ShipLanterns();
        for (int number = 0; number < 16; number++) {
            due("hang()", ship.hang(0, 1 + number % 9, number % 2 == 0), number);
        }
        thrown(ship, "hang() of a 17th lantern", STATE, () -> ship.hang(0, 1, false));
        lanternIs(ship, 15, 0, 7, 0, 0);
        due("takeDown(15)", ship.takeDown(15), 1);
        thrown(ship, "takeDown(15) again", INDEX, () -> ship.takeDown(15));
        due("hang() of the 16th lantern again", ship.hang(0, 9, true), 15);
        thrown(ship, "hang() of a 17th lantern again", STATE, () -> ship.hang(0, 1, false));
        counts(ship, "of 16 lanterns", 1, 16, 16, 0, 0, 0, 10, 0, 0, 0, 0, 6);
        for (int left = 16; left > 0; left--) {
            due("takeDown(0)", ship.takeDown(0), 1);
        }
        thrown(ship, "takeDown(0) of none", INDEX, () -> ship.takeDown(0));
        counts(ship, "of no lanterns", 1, 0, 0, 0, 0, 0, 10, 0, 0, 0, 0, 6);
        due("hang() of the first again", ship.hang(0, 1, false), 0);
    }

    /** "At most 8 faults, numbered from 0 in the order in which they came". */
    private static void faultsUpToEight() {
        ShipLanterns ship = new ShipLanterns();
        for (int number = 0; number < 8; number++) {
            due("fault()", ship.fault(0, 0, 23 + number), 0);
            faultIs(ship, number, 0, 0, 23 + number, 0, 0);
            due("count(3)", ship.count(3), number + 1);
        }
        thrown(ship, "fault() of a 9th", STATE, () -> ship.fault(0, 1, 1));
        due("mend(7)", ship.mend(7), 30);
        thrown(ship, "mend(7) again", INDEX, () -> ship.mend(7));
        due("fault() of the 8th again", ship.fault(0, 1, 1), 0);
        faultIs(ship, 7, 0, 1, 1, 1, 1);
        faultIs(ship, 0, 0, 0, 23, 0, 1);
        thrown(ship, "fault() of a 9th again", STATE, () -> ship.fault(0, 1, 1));
        for (int left = 8; left > 1; left--) {
            due("mend(0)", ship.mend(0), 31 - left);
        }
        due("mend(0) of the last", ship.mend(0), 1);
        thrown(ship, "mend(0) of none", INDEX, () -> ship.mend(0));
        counts(ship, "of no faults", 1, 0, 0, 0, 0, 0, 10, 0, 0, 0, 0, 6);
    }

    /** "At first there are 10 spare fuses", "if there are no spare fuses", "if there would be more than 50". */
    private static void spareFuses() {
        ShipLanterns ship = planned("0>60,60;1*2");
        for (int left = 9; left >= 0; left--) {
            due("replace(1, 0, 1)", ship.replace(1, 0, left % 2 + 1), left % 2);
            due("count(6)", ship.count(6), left);
        }
        thrown(ship, "replace() without a spare fuse", STATE, () -> ship.replace(1, 0, 60));
        due("buyFuses(1) at 0", ship.buyFuses(1), 1);
        due("replace() by the last", ship.replace(1, 0, 60), 1);
        thrown(ship, "replace() without a spare fuse again", STATE, () -> ship.replace(1, 1, 60));
        due("count(7)", ship.count(7), 5);
        due("buyFuses(20)", ship.buyFuses(20), 20);
        due("buyFuses(11)", ship.buyFuses(11), 31);
        thrown(ship, "buyFuses(20) at 31", STATE, () -> ship.buyFuses(20));
        due("replace() at 31", ship.replace(1, 1, 60), 1);
        due("buyFuses(20) at 30", ship.buyFuses(20), 50);
        thrown(ship, "buyFuses(1) at 50", STATE, () -> ship.buyFuses(1));
        due("replace() at 50", ship.replace(1, 1, 60), 1);
        thrown(ship, "buyFuses(2) at 49", STATE, () -> ship.buyFuses(2));
        due("buyFuses(1) at 49", ship.buyFuses(1), 50);
        due("undo()", ship.undo(), 5);
        due("count(6) behind undo()", ship.count(6), 49);
        due("buyFuses(1) at 49 again", ship.buyFuses(1), 50);
    }

    /** "1 to 1000", "if there would be more than 100000 hours". */
    private static void hours() {
        ShipLanterns ship = planned("0*9;0*9");
        for (int thousand = 1; thousand < 100; thousand++) {
            due("burn(1000)", ship.burn(1000), 18000);
        }
        due("burn(1) at 99000", ship.burn(1), 18);
        thrown(ship, "burn(1000) at 99001", STATE, () -> ship.burn(1000));
        due("undo()", ship.undo(), 5);
        due("burn(1000) at 99000", ship.burn(1000), 18000);
        counts(ship, "at 100000 hours", 1, 2, 2, 0, 0, 0, 10, 0, 100000, 1800000, 0, 6);
        thrown(ship, "burn(1) at 100000", STATE, () -> ship.burn(1));
        ship.undo();
        due("burn(999) at 99000", ship.burn(999), 17982);
        thrown(ship, "burn(2) at 99999", STATE, () -> ship.burn(2));
        due("burn(1) at 99999", ship.burn(1), 18);
        counts(ship, "at 100000 hours again", 1, 2, 2, 0, 0, 0, 10, 0, 100000, 1800000, 0, 6);
        // All else goes on at the last hour.
        due("takeDown(0)", ship.takeDown(0), 1);
        due("count(8)", ship.count(8), 100000);
    }

    /** All that there may be: 16 lanterns of 9 units, four faults of 30 on each pole, 100000 hours. */
    private static void sums() {
        ShipLanterns ship = new ShipLanterns();
        for (int number = 0; number < 16; number++) {
            ship.hang(0, 9, true);
        }
        for (int number = 0; number < 8; number++) {
            ship.fault(0, number % 2, 30);
        }
        due("count(4)", ship.count(4), 120);
        terminalIs(ship, 0, 0, 0, 1, 264, -1, -1, 120);
        terminalIs(ship, 0, 1, 1, 1, 264, -1, -1, 120);
        boxIs(ship, 0, -1, -1, -1, 0, 0, 16, 144);
        for (int thousand = 1; thousand <= 100; thousand++) {
            due("burn(1000)", ship.burn(1000), 144000);
        }
        counts(ship, "of all that there may be", 1, 16, 16, 8, 120, 0, 10, 0, 100000, 14400000, 12000000, 6);
        check.dueDouble("lossShare()", ship.lossShare(), 12000000.0 / 26400000.0);
    }

    /** "Box 0 is the switchboard, which is always there": it has no parent, cable, switch or fuse, and never goes dead. */
    private static void switchboard() {
        ShipLanterns ship = planned("0*9;0!9;0#0,30;0#1,30");
        boxIs(ship, 0, -1, -1, -1, 0, 0, 2, 18);
        terminalIs(ship, 0, 0, 0, 1, 48, -1, -1, 30);
        terminalIs(ship, 0, 1, 1, 1, 48, -1, -1, 30);
        counts(ship, "of a switchboard alone", 1, 2, 2, 2, 30, 0, 10, 0, 0, 0, 0, 1);
        due("locate(0)", ship.locate(0), 0);
        due("locate(1)", ship.locate(1), 0);
        due("ifFault(0, 0, 30, 0)", ship.ifFault(0, 0, 30, 0), 0);
        due("ifFault(0, 0, 30, 3)", ship.ifFault(0, 0, 30, 3), -1);
    }

    private static void areAlive(ShipLanterns ship, int... wants) {
        for (int i = 0; i < wants.length; i++) {
            due("terminal(" + i / 2 + ", " + i % 2 + ", 1)", ship.terminal(i / 2, i % 2, 1), wants[i]);
        }
    }

    /** "Alive if the switch of its cable is closed, its fuse is whole, and the terminal it is connected to is alive". */
    private static void alive() {
        ShipLanterns ship = planned("0>9,9;1%9,9;2*2");
        areAlive(ship, 1, 1, 1, 1, 1, 1);
        ship.toggle(2);
        areAlive(ship, 1, 1, 1, 1, 0, 0);
        ship.toggle(1);
        areAlive(ship, 1, 1, 0, 0, 0, 0);
        ship.toggle(2);
        areAlive(ship, 1, 1, 0, 0, 0, 0);
        ship.toggle(1);
        areAlive(ship, 1, 1, 1, 1, 1, 1);
        due("replace(2, 0, 1)", ship.replace(2, 0, 1), 0);
        areAlive(ship, 1, 1, 1, 1, 0, 1);
        due("replace(2, 0, 2)", ship.replace(2, 0, 2), 1);
        due("replace(2, 1, 1)", ship.replace(2, 1, 1), 0);
        areAlive(ship, 1, 1, 1, 1, 1, 0);
        due("replace(2, 1, 2)", ship.replace(2, 1, 2), 1);
        due("replace(1, 0, 1)", ship.replace(1, 0, 1), 0);
        // Terminal 1 of box 2 is connected to terminal 0 of box 1.
        areAlive(ship, 1, 1, 0, 1, 1, 0);
        due("cross(2)", ship.cross(2), 0);
        areAlive(ship, 1, 1, 0, 1, 0, 1);
        due("replace(1, 0, 2)", ship.replace(1, 0, 2), 1);
        areAlive(ship, 1, 1, 1, 1, 1, 1);
    }

    /** "Whether switches are open, or fuses are blown, does not matter". */
    private static void poles() {
        ShipLanterns ship = planned("0%9,9;1%9,9;2>9,9;3*2");
        int[] wants = {0, 1, 1, 0, 0, 1, 0, 1};
        for (int step = 0; step < 4; step++) {
            for (int i = 0; i < wants.length; i++) {
                due("terminal(" + i / 2 + ", " + i % 2 + ", 0)", ship.terminal(i / 2, i % 2, 0), wants[i]);
            }
            switch (step) {
                case 0: due("replace(1, 0, 1)", ship.replace(1, 0, 1), 0); break;
                case 1: due("replace(2, 0, 1)", ship.replace(2, 0, 1), 1); break;
                default: due("toggle(1)", ship.toggle(1), step == 2 ? 0 : 1); break;
            }
        }
        // Crossed and crossed again behind an open switch.
        ship.toggle(1);
        ship.cross(2);
        due("terminal(3, 0, 0)", ship.terminal(3, 0, 0), 1);
        due("terminal(3, 1, 0)", ship.terminal(3, 1, 0), 0);
        ship.cross(2);
        due("terminal(3, 0, 0)", ship.terminal(3, 0, 0), 0);
    }

    /** "It burns if both terminals of its box are alive, and, if it is particular, terminal 0 has the pole 0". */
    private static void burning() {
        ShipLanterns ship = planned("0>9,9;1*2;1!3");
        due("box(1, 5)", ship.box(1, 5), 2);
        due("terminal(1, 0, 2)", ship.terminal(1, 0, 2), 5);
        due("cross(1)", ship.cross(1), 1);
        due("box(1, 5)", ship.box(1, 5), 1);
        due("terminal(1, 0, 2)", ship.terminal(1, 0, 2), 2);
        due("terminal(1, 1, 2)", ship.terminal(1, 1, 2), 2);
        due("replace(1, 1, 1), which leaves one terminal alive", ship.replace(1, 1, 1), 0);
        due("box(1, 5)", ship.box(1, 5), 0);
        due("terminal(1, 0, 1)", ship.terminal(1, 0, 1), 1);
        due("terminal(1, 0, 2)", ship.terminal(1, 0, 2), 0);
        due("box(1, 6), burning or not", ship.box(1, 6), 5);
        due("cross(1)", ship.cross(1), 0);
        due("replace(1, 1, 9)", ship.replace(1, 1, 9), 1);
        due("count(2)", ship.count(2), 2);
        due("burn(1000)", ship.burn(1000), 5000);
        ship.toggle(1);
        due("burn(1000) in the dark", ship.burn(1000), 0);
    }

    /** "The first of these that holds": each pair of reasons at once, at a box far from the switchboard. */
    private static void reasons() {
        ShipLanterns ship = planned("0>9,9;1>9,9;2>9,9;3>9,9;4!2;4*1");
        lanternIs(ship, 0, 4, 2, 1, 0);
        ship.cross(4);
        lanternIs(ship, 0, 4, 2, 1, 4);
        lanternIs(ship, 1, 4, 1, 0, 0);
        // 3 and 4: terminal 1 of box 4 comes from terminal 0 of box 3, and terminal 0 from terminal 1.
        ship.hang(4, 3, false);
        due("replace(3, 0, 1)", ship.replace(3, 0, 1), 0);
        lanternIs(ship, 0, 4, 2, 1, 3);
        lanternIs(ship, 1, 4, 1, 0, 3);
        ship.undo();
        due("replace(3, 1, 1)", ship.replace(3, 1, 1), 0);
        lanternIs(ship, 0, 4, 2, 1, 2);
        lanternIs(ship, 1, 4, 1, 0, 2);
        // 2 and 3 and 4: box 2 goes bright again by a lantern of its own, and loses the other fuse.
        ship.hang(3, 2, false);
        ship.hang(2, 2, false);
        due("replace(2, 0, 1)", ship.replace(2, 0, 1), 0);
        lanternIs(ship, 0, 4, 2, 1, 2);
        ship.cross(4);
        lanternIs(ship, 0, 4, 2, 1, 2);
        due("replace(2, 0, 9)", ship.replace(2, 0, 9), 1);
        lanternIs(ship, 0, 4, 2, 1, 3);
        // 1 comes before all others, and an open switch far above counts as well.
        ship.toggle(1);
        lanternIs(ship, 0, 4, 2, 1, 1);
        lanternIs(ship, 1, 4, 1, 0, 1);
        ship.toggle(4);
        ship.toggle(1);
        lanternIs(ship, 0, 4, 2, 1, 1);
        ship.toggle(4);
        lanternIs(ship, 0, 4, 2, 1, 3);
    }

    private static void leaks(ShipLanterns ship, int leak, int... flows) {
        due("count(4)", ship.count(4), leak);
        for (int number = 0; number < flows.length; number++) {
            due("faultAt(" + number + ", 4)", ship.faultAt(number, 4), flows[number]);
        }
    }

    /** "The leak is the lesser one of A and B": one of them none, one just less, both the same, one just more. */
    private static void leak() {
        ShipLanterns ship = new ShipLanterns();
        leaks(ship, 0);
        ship.fault(0, 1, 30);
        leaks(ship, 0, 0);
        ship.fault(0, 0, 1);
        leaks(ship, 1, 1, 1);
        ship.fault(0, 0, 28);
        leaks(ship, 29, 29, 1, 28);
        ship.fault(0, 0, 1);
        leaks(ship, 30, 30, 1, 28, 1);
        ship.fault(0, 0, 1);
        leaks(ship, 30, 30, 1, 28, 1, 0);
        ship.fault(0, 1, 1);
        leaks(ship, 31, 30, 1, 28, 1, 1, 1);
        due("burn(1000)", ship.burn(1000), 0);
        due("count(10)", ship.count(10), 31000);
    }

    /** "By their numbers: each one takes its strength, but not more than is left of the leak". */
    private static void flows() {
        ShipLanterns ship = planned("0#1,10;0#0,4;0#0,5;0#0,6");
        leaks(ship, 10, 10, 4, 5, 1);
        due("mend(1)", ship.mend(1), 4);
        leaks(ship, 10, 10, 5, 5);
        ship.fault(0, 0, 4);
        leaks(ship, 10, 10, 5, 5, 0);
        due("mend(0)", ship.mend(0), 10);
        leaks(ship, 0, 0, 0, 0);
        ship.fault(0, 1, 5);
        leaks(ship, 5, 5, 0, 0, 5);
        ship.fault(0, 1, 1);
        leaks(ship, 6, 5, 1, 0, 5, 1);
    }

    /** "The current of a terminal that is not alive is 0", and so is what flows through its faults. */
    private static void dead() {
        ShipLanterns ship = planned("0>60,60;1#0,7;0#0,2;0#1,9;1*4");
        leaks(ship, 9, 7, 2, 9);
        due("terminal(1, 0, 2)", ship.terminal(1, 0, 2), 11);
        due("terminal(1, 1, 2)", ship.terminal(1, 1, 2), 4);
        ship.toggle(1);
        leaks(ship, 2, 0, 2, 2);
        due("lamp(0)", ship.lamp(0), 2);
        terminalIs(ship, 1, 0, 0, 0, 0, 60, 0, 7);
        terminalIs(ship, 1, 1, 1, 0, 0, 60, 0, 0);
        due("terminal(0, 0, 2)", ship.terminal(0, 0, 2), 2);
        due("fault(1, 1, 30) at a dead terminal", ship.fault(1, 1, 30), 0);
        leaks(ship, 2, 0, 2, 2, 0);
        due("replace(1, 0, 1) while the switch is open", ship.replace(1, 0, 1), 1);
        due("toggle(1)", ship.toggle(1), 1);
        due("terminal(1, 0, 4)", ship.terminal(1, 0, 4), 1);
        // Terminal 1 is alive still, so the fault there takes the leak of pole 1 once the first has taken its 9.
        leaks(ship, 2, 0, 2, 2, 0);
        due("lamp(1)", ship.lamp(1), 39);
    }

    /** "A rating of 1 to 60", "whose current is greater than the rating": as much does no harm, one more does. */
    private static void ratings() {
        for (int terminal = 0; terminal < 2; terminal++) {
            ShipLanterns weak = planned(terminal == 0 ? "0>1,60" : "0>60,1");
            due("hang(1, 1)", weak.hang(1, 1, false), 0);
            due("count(5) at the rating 1", weak.count(5), 0);
            due("hang(1, 1)", weak.hang(1, 1, false), 1);
            due("count(5) above the rating 1", weak.count(5), 1);
            due("terminal(1, " + terminal + ", 4)", weak.terminal(1, terminal, 4), 1);
            due("terminal(1, " + (1 - terminal) + ", 4)", weak.terminal(1, 1 - terminal, 4), 0);
        }
        ShipLanterns strong = planned("0>60,60;1*9;1*9;1*9;1*9;1*9;1*9;1*6");
        terminalIs(strong, 1, 0, 0, 1, 60, 60, 0, 0);
        terminalIs(strong, 1, 1, 1, 1, 60, 60, 0, 0);
        due("count(2) at the rating 60", strong.count(2), 7);
        due("hang(1, 1)", strong.hang(1, 1, true), 7);
        due("count(2) above the rating 60", strong.count(2), 0);
        terminalIs(strong, 1, 0, 0, 0, 0, 60, 1, 0);
        terminalIs(strong, 1, 1, 1, 1, 0, 60, 0, 0);
        due("count(7)", strong.count(7), 1);
        // A blown fuse stays blown, though nothing flows now.
        due("takeDown(7)", strong.takeDown(7), 0);
        due("terminal(1, 0, 4)", strong.terminal(1, 0, 4), 1);
        due("replace(1, 0, 60)", strong.replace(1, 0, 60), 1);
        due("replace(1, 0, 59)", strong.replace(1, 0, 59), 0);
    }

    /** The same for what leaks, alone and on top of what burns. */
    private static void leaksAndRatings() {
        ShipLanterns ship = planned("0>29,30;0#0,30;1#1,30");
        terminalIs(ship, 1, 1, 1, 1, 30, 30, 0, 30);
        due("fault(1, 0, 30), which takes nothing", ship.fault(1, 0, 30), 0);
        leaks(ship, 30, 30, 30, 0);
        due("mend(0)", ship.mend(0), 30);
        due("terminal(1, 0, 4)", ship.terminal(1, 0, 4), 1);
        due("terminal(1, 1, 4)", ship.terminal(1, 1, 4), 0);
        leaks(ship, 0, 0, 0);
        ShipLanterns both = planned("0>10,60;1*4;0#1,30;1#0,6");
        due("terminal(1, 0, 2)", both.terminal(1, 0, 2), 10);
        due("count(5)", both.count(5), 0);
        due("ifFault(1, 0, 1, 0)", both.ifFault(1, 0, 1, 0), 1);
        due("ifFault(1, 0, 1, 3)", both.ifFault(1, 0, 1, 3), 100);
        due("ifFault(0, 0, 1, 0)", both.ifFault(0, 0, 1, 0), 0);
        due("fault(1, 0, 1)", both.fault(1, 0, 1), 1);
        due("count(2)", both.count(2), 0);
    }

    /** Two fuses at once are too weak for the leak; the first that blows ends it, so that the other one is spared. */
    private static void oneOfTwo(String plan, int box, int terminal, int blown) {
        ShipLanterns ship = planned(plan);
        due("count(5) of " + plan, ship.count(5), 0);
        due("ifFault(.., 3) of " + plan, ship.ifFault(box, terminal, 6, 3), 10 * blown);
        due("ifFault(.., 0) of " + plan, ship.ifFault(box, terminal, 6, 0), 1);
        due("ifFault(.., 2) of " + plan, ship.ifFault(box, terminal, 6, 2), 0);
        due("fault() of " + plan, ship.fault(box, terminal, 6), 1);
        due("terminal(.., 4) of " + plan, ship.terminal(blown / 10, blown % 10, 4), 1);
        due("count(5) of " + plan, ship.count(5), 1);
    }

    /** "The greatest depth of its box, of several that of the lowest box, of both terminals of a box terminal 0". */
    private static void orderOfFuses() {
        // Box 2 is deeper than box 3, and box 3 deeper than box 1, whichever of them has the terminal 0.
        oneOfTwo("0>60,60;1>5,60;0>60,5;2#0,6", 3, 1, 20);
        oneOfTwo("0>60,60;1>60,5;0>5,60;2#1,6", 3, 0, 21);
        oneOfTwo("0>5,60;0>60,60;2>60,5;1#0,6", 3, 1, 31);
        oneOfTwo("0>60,5;0>60,60;2>5,60;1#1,6", 3, 0, 30);
        // At one depth the lowest box, though its terminal is the other one.
        oneOfTwo("0>60,5;0>5,60;2#0,6", 1, 1, 11);
        oneOfTwo("0>60,60;0>60,60;2>60,5;1>5,60;4#0,6", 3, 1, 31);
        // At one box terminal 0, also where it has the pole 1.
        oneOfTwo("0>5,5;1#0,6", 1, 1, 10);
        oneOfTwo("0%5,5;1#0,6", 1, 1, 10);
        oneOfTwo("0>5,5;1#1,6", 1, 0, 10);
    }

    /** "Then all is found anew": what a blown fuse lets go flows elsewhere, or spares the other fuses. */
    private static void foundAnew() {
        ShipLanterns ship = new ShipLanterns();
        for (int number = 1; number < 12; number++) {
            ship.addBox(number - 1, number < 5 ? 60 : 5, 60, false);
        }
        for (int box = 11; box > 4; box--) {
            due("fault(" + box + ", 0, 6)", ship.fault(box, 0, 6), 0);
        }
        due("ifFault(0, 1, 6, 3)", ship.ifFault(0, 1, 6, 3), 1100);
        due("ifFault(0, 1, 6, 0)", ship.ifFault(0, 1, 6, 0), 7);
        due("ifFault(0, 1, 5, 0)", ship.ifFault(0, 1, 5, 0), 0);
        due("fault(0, 1, 6)", ship.fault(0, 1, 6), 7);
        leaks(ship, 0, 0, 0, 0, 0, 0, 0, 0, 0);
        due("count(5)", ship.count(5), 7);
        due("count(7)", ship.count(7), 7);
        due("undo()", ship.undo(), 5);
        due("count(5) behind undo()", ship.count(5), 0);
        due("count(7) behind undo()", ship.count(7), 0);
        // The last lantern is too much for the boxes 2 and 1, not for box 3; when box 2 is dead, box 1 is spared.
        ShipLanterns spared = planned("0>10,10;1>10,10;2>10,10;2*9;1*1;3*9");
        counts(spared, "of a spared fuse", 4, 3, 1, 0, 0, 1, 10, 1);
        due("terminal(2, 0, 4)", spared.terminal(2, 0, 4), 1);
        due("terminal(1, 0, 4)", spared.terminal(1, 0, 4), 0);
    }

    /** Each change that is marked "settles" may blow a fuse at once. */
    private static void settling() {
        ShipLanterns opened = planned("0>9,9;0>4,9;1#0,5;2#0,5;0#1,5;2*1");
        due("count(5)", opened.count(5), 0);
        due("ifToggled(1)", opened.ifToggled(1), 0);
        due("toggle(1), by which the leak goes to box 2", opened.toggle(1), 0);
        due("terminal(2, 0, 4)", opened.terminal(2, 0, 4), 1);
        due("count(2)", opened.count(2), 0);
        ShipLanterns crossed = planned("0>4,9;1#0,5;0#0,5;1*1");
        leaks(crossed, 0, 0, 0);
        due("cross(1), by which the faults are on both poles", crossed.cross(1), 0);
        due("terminal(1, 0, 4)", crossed.terminal(1, 0, 4), 1);
        leaks(crossed, 0, 0, 0);
        due("replace(1, 0, 6)", crossed.replace(1, 0, 6), 1);
        leaks(crossed, 5, 5, 5);
        ShipLanterns mended = planned("0>4,9;0#0,5;1#0,5;0#1,5");
        due("mend(0), by which the leak goes to box 1", mended.mend(0), 5);
        due("terminal(1, 0, 4)", mended.terminal(1, 0, 4), 1);
        ShipLanterns hung = planned("0>4,9;1*4");
        due("hang(1, 1)", hung.hang(1, 1, true), 1);
        due("count(2)", hung.count(2), 0);
        due("addBox()", hung.addBox(1, 9, 9, false), 2);
        due("terminal(2, 0, 1) behind a blown fuse", hung.terminal(2, 0, 1), 0);
        due("terminal(2, 1, 1)", hung.terminal(2, 1, 1), 1);
        due("replace(1, 0, 5)", hung.replace(1, 0, 5), 1);
        due("hang(2, 1)", hung.hang(2, 1, false), 2);
        due("terminal(1, 0, 4)", hung.terminal(1, 0, 4), 1);
    }

    /** "The numbers of the later ones decrease by 1": of the first, one between, and the last. */
    private static void numbersDecrease() {
        ShipLanterns ship = planned("0>60,60;0*1;1!2;0*3;1!4;0#0,1;1#1,2;0#1,3;1#0,4");
        due("takeDown(2)", ship.takeDown(2), 1);
        lanternIs(ship, 0, 0, 1, 0, 0);
        lanternIs(ship, 1, 1, 2, 1, 0);
        lanternIs(ship, 2, 1, 4, 1, 0);
        due("takeDown(2), the last", ship.takeDown(2), 1);
        thrown(ship, "lantern(2, 0)", INDEX, () -> ship.lantern(2, 0));
        due("takeDown(0), the first", ship.takeDown(0), 1);
        lanternIs(ship, 0, 1, 2, 1, 0);
        thrown(ship, "lantern(1, 0)", INDEX, () -> ship.lantern(1, 0));
        due("mend(1)", ship.mend(1), 2);
        faultIs(ship, 0, 0, 0, 1, 0, 1);
        faultIs(ship, 1, 0, 1, 3, 1, 3);
        faultIs(ship, 2, 1, 0, 4, 0, 2);
        due("mend(2), the last", ship.mend(2), 4);
        thrown(ship, "faultAt(2, 0)", INDEX, () -> ship.faultAt(2, 0));
        due("mend(0), the first", ship.mend(0), 1);
        faultIs(ship, 0, 0, 1, 3, 1, 0);
        thrown(ship, "faultAt(1, 0)", INDEX, () -> ship.faultAt(1, 0));
        ship.toggle(1);
        due("takeDown(0) of a dark one", ship.takeDown(0), 0);
    }

    /** "At most 6 states are saved; the oldest one is dropped first". */
    private static void undoOfSix() {
        ShipLanterns ship = new ShipLanterns();
        thrown(ship, "undo() of nothing", STATE, ship::undo);
        for (int many = 1; many <= 6; many++) {
            due("buyFuses(1)", ship.buyFuses(1), 10 + many);
            due("count(11)", ship.count(11), many);
        }
        ShipLanterns sixth = new ShipLanterns();
        for (int many = 1; many <= 6; many++) {
            sixth.buyFuses(1);
        }
        for (int left = 5; left >= 0; left--) {
            due("undo() of six", sixth.undo(), left);
            due("count(6)", sixth.count(6), 10 + left);
        }
        thrown(sixth, "undo() of a seventh", STATE, sixth::undo);
        due("buyFuses(2) with six saved", ship.buyFuses(2), 18);
        due("count(11)", ship.count(11), 6);
        for (int left = 5; left >= 0; left--) {
            due("undo() of seven", ship.undo(), left);
            due("count(6)", ship.count(6), 11 + left);
        }
        thrown(ship, "undo() of the oldest, which is dropped", STATE, ship::undo);
        due("count(6)", ship.count(6), 11);
        due("buyFuses(3) behind all undo()", ship.buyFuses(3), 14);
        due("undo()", ship.undo(), 0);
        due("count(6)", ship.count(6), 11);
    }

    private static void saves(ShipLanterns ship, String call, int more, Runnable run) {
        int before = ship.count(11);
        run.run();
        due("count(11) behind " + call, ship.count(11), before + more);
        while (ship.count(11) > 1) {
            ship.undo();
        }
    }

    /** "Each method that is marked undoable and does not throw an exception saves the state"; the others save none. */
    private static void undoSaves() {
        ShipLanterns ship = planned("0>9,9;1*2;1!3;0#0,4;1#1,5");
        saves(ship, "addBox()", 1, () -> ship.addBox(0, 9, 9, false));
        saves(ship, "toggle()", 1, () -> ship.toggle(1));
        saves(ship, "cross()", 1, () -> ship.cross(1));
        saves(ship, "replace()", 1, () -> ship.replace(1, 0, 9));
        saves(ship, "buyFuses()", 1, () -> ship.buyFuses(1));
        saves(ship, "hang()", 1, () -> ship.hang(0, 1, true));
        saves(ship, "takeDown()", 1, () -> ship.takeDown(1));
        saves(ship, "fault()", 1, () -> ship.fault(0, 1, 1));
        saves(ship, "mend()", 1, () -> ship.mend(1));
        saves(ship, "burn()", 1, () -> ship.burn(1));
        saves(ship, "append()", 0, () -> type(ship, "0*1;0*1;9*1"));
        saves(ship, "firstError()", 0, ship::firstError);
        saves(ship, "load()", 1, ship::load);
        saves(ship, "append()", 0, () -> ship.append('~'));
        saves(ship, "clearBuffer()", 0, ship::clearBuffer);
        saves(ship, "box()", 0, () -> ship.box(0, 0));
        saves(ship, "terminal()", 0, () -> ship.terminal(0, 0, 0));
        saves(ship, "lantern()", 0, () -> ship.lantern(0, 0));
        saves(ship, "faultAt()", 0, () -> ship.faultAt(0, 0));
        saves(ship, "count()", 0, () -> ship.count(0));
        saves(ship, "lamp()", 0, () -> ship.lamp(0));
        saves(ship, "locate()", 0, () -> ship.locate(0));
        saves(ship, "ifFault()", 0, () -> ship.ifFault(0, 0, 1, 0));
        saves(ship, "ifToggled()", 0, () -> ship.ifToggled(1));
        saves(ship, "neededRating()", 0, () -> ship.neededRating(1, 0));
        saves(ship, "lossShare()", 0, ship::lossShare);
        saves(ship, "digest()", 0, ship::digest);
        saves(ship, "undo()", -1, ship::undo);
    }

    /** "All but the buffer and the saved states": spare and blown fuses, hours, and both sums come back too. */
    private static void undoOfCounters() {
        ShipLanterns ship = planned("0>5,9;1*4;0#0,3;1#1,2");
        ship.burn(10);
        counts(ship, "at first", 2, 1, 1, 2, 2, 0, 10, 0, 10, 40, 20, 2);
        ship.hang(1, 3, true);
        ship.replace(1, 0, 6);
        ship.replace(1, 0, 7);
        ship.burn(1000);
        ship.append('x');
        counts(ship, "behind four changes", 2, 2, 2, 2, 2, 0, 8, 2, 1010, 7040, 2020, 6);
        due("undo() of burn()", ship.undo(), 5);
        counts(ship, "behind it", 2, 2, 2, 2, 2, 0, 8, 2, 10, 40, 20, 5);
        due("undo() of replace()", ship.undo(), 4);
        counts(ship, "behind it", 2, 2, 0, 2, 2, 1, 9, 2, 10, 40, 20, 4);
        due("terminal(1, 0, 3)", ship.terminal(1, 0, 3), 6);
        due("undo() of replace()", ship.undo(), 3);
        counts(ship, "behind it", 2, 2, 0, 2, 2, 1, 10, 1, 10, 40, 20, 3);
        due("terminal(1, 0, 3)", ship.terminal(1, 0, 3), 5);
        due("undo() of hang()", ship.undo(), 2);
        counts(ship, "at first again", 2, 1, 1, 2, 2, 0, 10, 0, 10, 40, 20, 2);
        due("clearBuffer()", ship.clearBuffer(), 1);
    }

    /** "A bit mask (bit n for box n) of the boxes with closed switches": none, and all eleven. */
    private static void lampAndLocate() {
        ShipLanterns ship = chain(12);
        due("lamp(0) of no faults", ship.lamp(0), 0);
        due("lamp(1) of no faults", ship.lamp(1), 0);
        due("locate(0) of no faults", ship.locate(0), 0);
        due("locate(1) of no faults", ship.locate(1), 0);
        ship.fault(11, 1, 1);
        due("lamp(0)", ship.lamp(0), 0);
        due("lamp(1) of the weakest fault", ship.lamp(1), 1);
        due("locate(0)", ship.locate(0), 0);
        due("locate(1) of the last box", ship.locate(1), 0xffe);
        ship.cross(6);
        due("lamp(0)", ship.lamp(0), 1);
        due("lamp(1)", ship.lamp(1), 0);
        due("locate(0)", ship.locate(0), 0xffe);
        due("locate(1)", ship.locate(1), 0);
        ship.toggle(11);
        due("lamp(0) behind an open switch", ship.lamp(0), 0);
        due("locate(0) behind an open switch", ship.locate(0), 0);
        ship.fault(5, 0, 2);
        due("locate(0)", ship.locate(0), 0x3e);
        for (int number = 2; number < 8; number++) {
            ship.fault(0, 0, 30);
        }
        due("lamp(0)", ship.lamp(0), 182);
        due("locate(0), which faults at the switchboard leave alone", ship.locate(0), 0x3e);
    }

    /** "NONE if none would", "the limit of 8 faults does not matter". */
    private static void ifFault() {
        ShipLanterns ship = planned("0>30,29;0*5;1*1");
        due("ifFault(1, 1, 30, 3) alone", ship.ifFault(1, 1, 30, 3), -1);
        due("ifFault(1, 1, 30, 1)", ship.ifFault(1, 1, 30, 1), 2);
        ship.fault(0, 0, 30);
        due("ifFault(1, 1, 1, 2)", ship.ifFault(1, 1, 1, 2), 1);
        due("ifFault(1, 1, 28, 3)", ship.ifFault(1, 1, 28, 3), -1);
        due("ifFault(1, 1, 28, 1)", ship.ifFault(1, 1, 28, 1), 2);
        due("ifFault(1, 1, 29, 3)", ship.ifFault(1, 1, 29, 3), 110);
        due("ifFault(1, 1, 29, 0)", ship.ifFault(1, 1, 29, 0), 1);
        due("ifFault(1, 1, 29, 1)", ship.ifFault(1, 1, 29, 1), 1);
        due("ifFault(1, 1, 29, 2)", ship.ifFault(1, 1, 29, 2), 0);
        for (int number = 1; number < 8; number++) {
            ship.fault(0, 0, 30);
        }
        due("ifFault(0, 1, 30, 2) as a 9th", ship.ifFault(0, 1, 30, 2), 30);
        due("ifFault(1, 1, 29, 3) as a 9th", ship.ifFault(1, 1, 29, 3), 110);
        due("ifFault(1, 0, 30, 0) as a 9th", ship.ifFault(1, 0, 30, 0), 0);
        due("ifFault(0, 0, 30, 2) as a 9th", ship.ifFault(0, 0, 30, 2), 0);
        counts(ship, "behind it", 2, 2, 2, 8, 0, 0, 10, 0, 0, 0, 0, 6);
        // As the 9th it is the last to take of the leak, so that box 1 is spared.
        ShipLanterns last = planned("0>1,60;0#1,7;0#0,1;0#0,1;0#0,1;0#0,1;0#0,1;0#0,1");
        last.fault(0, 0, 1);
        due("ifFault(1, 0, 30, 0) as the last", last.ifFault(1, 0, 30, 0), 0);
        due("ifFault(1, 0, 30, 2) as the last", last.ifFault(1, 0, 30, 2), 7);
        due("ifFault(1, 1, 30, 2) as the last", last.ifFault(1, 1, 30, 2), 7);
        ShipLanterns two = chain(12);
        two.replace(11, 1, 1);
        two.fault(11, 1, 2);
        due("ifFault(0, 0, 2, 3) of the last fuse", two.ifFault(0, 0, 2, 3), 1110);
        due("ifFault(0, 0, 1, 3)", two.ifFault(0, 0, 1, 3), -1);
    }

    /** "If a switch was opened or closed, after the fuses that blow by that have blown". */
    private static void ifToggled() {
        ShipLanterns ship = planned("0>9,9;1>9,9;2*5;1*4;0*3");
        due("ifToggled(1)", ship.ifToggled(1), 1);
        due("ifToggled(2)", ship.ifToggled(2), 2);
        ship.toggle(2);
        due("ifToggled(2) at the rating", ship.ifToggled(2), 3);
        ship.hang(1, 1, false);
        due("ifToggled(2) above the rating", ship.ifToggled(2), 1);
        due("ifToggled(1) with box 2 open", ship.ifToggled(1), 1);
        ship.toggle(1);
        due("ifToggled(2) with both open", ship.ifToggled(2), 1);
        due("ifToggled(1) with both open", ship.ifToggled(1), 3);
        ShipLanterns far = chain(12);
        due("ifToggled(11) without a lantern", far.ifToggled(11), 0);
        far.hang(11, 9, true);
        due("ifToggled(11)", far.ifToggled(11), 0);
        far.toggle(11);
        due("ifToggled(11)", far.ifToggled(11), 1);
        due("ifToggled(1)", far.ifToggled(1), 0);
    }

    /** "The least rating that a fuse needs, if all blown fuses were whole, and no fuse could blow". */
    private static void neededRating() {
        ShipLanterns ship = chain(5);
        due("neededRating(4, 1) of nothing", ship.neededRating(4, 1), 0);
        int[] due = {0, 30, 24, 17, 9};
        for (int box = 4; box > 0; box--) {
            ship.hang(box, box + 5, true);
        }
        for (int box = 4; box > 0; box--) {
            due("replace(.., 1)", ship.replace(box, box % 2, 1), 0);
        }
        due("count(5)", ship.count(5), 4);
        for (int box = 1; box < 5; box++) {
            due("neededRating(" + box + ", 0)", ship.neededRating(box, 0), due[box]);
            due("neededRating(" + box + ", 1)", ship.neededRating(box, 1), due[box]);
        }
        ShipLanterns most = chain(12);
        for (int number = 0; number < 16; number++) {
            most.hang(11, 9, false);
        }
        for (int number = 0; number < 8; number++) {
            most.fault(number < 4 ? 11 : 0, number < 4 ? 0 : 1, 30);
        }
        due("count(2)", most.count(2), 0);
        for (int box = 1; box < 12; box++) {
            due("neededRating(" + box + ", 0) of all", most.neededRating(box, 0), 264);
            due("neededRating(" + box + ", 1) of all", most.neededRating(box, 1), 144);
        }
        most.toggle(6);
        due("neededRating(5, 0) before an open switch", most.neededRating(5, 0), 0);
        due("neededRating(11, 0) behind an open switch", most.neededRating(11, 0), 0);
    }

    /** "0.0 if that sum is 0", and 0.0 and 1.0 where it is not. */
    private static void lossShare() {
        ShipLanterns ship = new ShipLanterns();
        check.dueDouble("lossShare() of no hours", ship.lossShare(), 0.0);
        ship.burn(1000);
        check.dueDouble("lossShare() of dark hours without a leak", ship.lossShare(), 0.0);
        ship.hang(0, 1, false);
        ship.burn(1);
        check.dueDouble("lossShare() of light alone", ship.lossShare(), 0.0);
        ship.undo();
        ship.undo();
        ship.fault(0, 0, 1);
        ship.fault(0, 1, 1);
        ship.burn(1);
        check.dueDouble("lossShare() of a leak alone", ship.lossShare(), 1.0);
        ship.hang(0, 2, false);
        ship.burn(1);
        check.dueDouble("lossShare() of 2 in 4", ship.lossShare(), 0.5);
        check.dueDouble("lossShare() of the least share", leastShare().lossShare(), 1.0 / 14400001.0);
    }

    /** One unit is lost in one hour, and all that lanterns can use is used. */
    private static ShipLanterns leastShare() {
        ShipLanterns ship = new ShipLanterns();
        for (int number = 0; number < 16; number++) {
            ship.hang(0, 9, false);
        }
        for (int thousand = 1; thousand < 100; thousand++) {
            ship.burn(1000);
        }
        ship.burn(999);
        ship.fault(0, 0, 1);
        ship.fault(0, 1, 30);
        ship.burn(1);
        return ship;
    }

    private static ShipLanterns mostOfAll() {
        ShipLanterns ship = new ShipLanterns();
        for (int number = 1; number < 12; number++) {
            ship.addBox(number / 3, 20 + number, 40 - number, number % 3 == 1);
        }
        for (int number = 0; number < 16; number++) {
            ship.hang(number % 12, 1 + number % 9, number % 3 == 0);
        }
        for (int number = 0; number < 8; number++) {
            ship.fault(11 - number, number % 2, 1 + 2 * number);
        }
        ship.toggle(10);
        ship.burn(77);
        for (int sign = 0; sign < 60; sign++) {
            ship.append(126 - sign);
        }
        return ship;
    }

    /** The hash of the list of promise 28; each value is asked of a ship of its own, for the sake of the 512 calls. */
    private static long hashOf(Supplier<ShipLanterns> made, String buffer) {
        List<ToLongFunction<ShipLanterns>> list = new ArrayList<>();
        range(12, what -> list.add(ship -> ship.count(what)));
        range(made.get().count(0), box -> {
            range(7, what -> list.add(ship -> ship.box(box, what)));
            range(2, terminal -> range(6, what -> list.add(ship -> ship.terminal(box, terminal, what))));
        });
        range(made.get().count(1), number -> range(4, what -> list.add(ship -> ship.lantern(number, what))));
        range(made.get().count(3), number -> range(5, what -> list.add(ship -> ship.faultAt(number, what))));
        range(2, pole -> {
            list.add(ship -> ship.lamp(pole));
            list.add(ship -> ship.locate(pole));
        });
        range(made.get().count(0) - 1, before -> {
            list.add(ship -> ship.ifToggled(before + 1));
            range(2, terminal -> list.add(ship -> ship.neededRating(before + 1, terminal)));
        });
        list.add(ship -> Double.doubleToLongBits(ship.lossShare()));
        list.add(ship -> ship.clearBuffer());
        range(buffer.length(), place -> list.add(ship -> buffer.charAt(place)));
        long hash = 2141;
        for (ToLongFunction<ShipLanterns> value : list) {
            hash = 31 * hash + value.applyAsLong(made.get());
        }
        return hash;
    }

    private static void range(int end, IntConsumer each) {
        for (int i = 0; i < end; i++) {
            each.accept(i);
        }
    }

    /** The whole list of promise 28, of the empty and of the full ship, and of the least share that is not 0.0. */
    private static void digestOfFull() {
        StringBuilder buffer = new StringBuilder();
        range(60, sign -> buffer.append((char) (126 - sign)));
        due("digest() of a new object", new ShipLanterns().digest(), hashOf(ShipLanterns::new, ""));
        due("digest() of the most of all", mostOfAll().digest(), hashOf(EdgeTest::mostOfAll, buffer.toString()));
        due("digest() of the least share", leastShare().digest(), hashOf(EdgeTest::leastShare, ""));
        due("count(0) of the most of all", mostOfAll().count(0), 12);
        due("count(1) of the most of all", mostOfAll().count(1), 16);
        due("count(3) of the most of all", mostOfAll().count(3), 8);
        due("count(11) of the most of all", mostOfAll().count(11), 6);
    }

    /** "At most 512 calls": the last of them is answered as well as the first. */
    private static void calls() {
        ShipLanterns ship = new ShipLanterns();
        for (int call = 1; call < 511; call += 2) {
            due("hang() as call " + call, ship.hang(0, 9, true), 0);
            due("takeDown() as call " + (call + 1), ship.takeDown(0), 1);
        }
        due("hang() as call 511", ship.hang(0, 9, true), 0);
        due("undo() as call 512", ship.undo(), 5);
    }
}
