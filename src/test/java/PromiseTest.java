/** Each promise of the document by answers found by hand: ordinary calls, the edges it names, and wrong calls. */
public final class PromiseTest extends ShipCheck {
    public static void main(String[] args) {
        begin("PromiseTest");
        newObject();
        addBox();
        toggle();
        cross();
        replace();
        buyFuses();
        hang();
        takeDown();
        fault();
        fuseOrder();
        mend();
        burn();
        append();
        clearBuffer();
        firstError();
        load();
        loadRefused();
        undo();
        undoOfEach();
        undoOfBoxes();
        box();
        terminal();
        lantern();
        faultAt();
        count();
        lamp();
        locate();
        ifFault();
        ifToggled();
        neededRating();
        lossShare();
        digest();
        digestOfAll();
        check.end();
    }

    private static void newObject() {
        ShipLanterns ship = new ShipLanterns();
        due("NONE", ShipLanterns.NONE, -1);
        counts(ship, "of a new object", 1, 0, 0, 0, 0, 0, 10, 0, 0, 0, 0, 0);
        boxIs(ship, 0, -1, -1, -1, 0, 0, 0, 0);
        terminalIs(ship, 0, 0, 0, 1, 0, -1, -1, 0);
        terminalIs(ship, 0, 1, 1, 1, 0, -1, -1, 0);
        due("clearBuffer() of a new object", ship.clearBuffer(), 0);
        check.dueThrow("undo() of a new object", STATE, ship::undo);
    }

    private static void addBox() {
        ShipLanterns ship = new ShipLanterns();
        due("addBox", ship.addBox(0, 1, 60, true), 1);
        due("addBox", ship.addBox(1, 60, 1, false), 2);
        boxIs(ship, 1, 0, 1, 1, 1, 1, 0, 0);
        boxIs(ship, 2, 1, 0, 1, 2, 0, 0, 0);
        terminalIs(ship, 1, 0, 1, 1, 0, 1, 0, 0);
        terminalIs(ship, 1, 1, 0, 1, 0, 60, 0, 0);
        terminalIs(ship, 2, 0, 1, 1, 0, 60, 0, 0);
        thrown(ship, "addBox(-1, 5, 5)", INDEX, () -> ship.addBox(-1, 5, 5, false));
        thrown(ship, "addBox(3, 5, 5)", INDEX, () -> ship.addBox(3, 5, 5, false));
        thrown(ship, "addBox(3, 0, 0)", INDEX, () -> ship.addBox(3, 0, 0, false));
        thrown(ship, "addBox(0, 0, 5)", ARGUMENT, () -> ship.addBox(0, 0, 5, false));
        thrown(ship, "addBox(0, 61, 5)", ARGUMENT, () -> ship.addBox(0, 61, 5, false));
        thrown(ship, "addBox(0, 5, 0)", ARGUMENT, () -> ship.addBox(0, 5, 0, false));
        thrown(ship, "addBox(0, 5, 61)", ARGUMENT, () -> ship.addBox(0, 5, 61, false));
        for (int number = 3; number < 12; number++) {
            due("addBox", ship.addBox(number - 1, 9, 9, false), number);
        }
        due("box(11, 3)", ship.box(11, 3), 11);
        thrown(ship, "a 13th box", STATE, () -> ship.addBox(0, 5, 5, false));
        thrown(ship, "a 13th box of rating 0", ARGUMENT, () -> ship.addBox(0, 5, 0, false));
        thrown(ship, "a 13th box at box 12", INDEX, () -> ship.addBox(12, 5, 5, false));
    }

    private static void toggle() {
        ShipLanterns ship = planned("0>5,60;1>60,60");
        due("toggle(1)", ship.toggle(1), 0);
        due("terminal(2, 0, 1) behind an open switch", ship.terminal(2, 0, 1), 0);
        ship.hang(2, 6, false);
        due("count(5) while the switch is open", ship.count(5), 0);
        due("toggle(1) with too much behind it", ship.toggle(1), 1);
        terminalIs(ship, 1, 0, 0, 0, 0, 5, 1, 0);
        due("terminal(1, 1, 1)", ship.terminal(1, 1, 1), 1);
        due("count(2)", ship.count(2), 0);
        due("count(11)", ship.count(11), 4);
        thrown(ship, "toggle(0)", INDEX, () -> ship.toggle(0));
        thrown(ship, "toggle(-1)", INDEX, () -> ship.toggle(-1));
        thrown(ship, "toggle(3)", INDEX, () -> ship.toggle(3));
    }

    private static void cross() {
        ShipLanterns ship = planned("0>5,60;1>60,60;2!4;1*1;0!9");
        due("count(2)", ship.count(2), 3);
        due("cross(1)", ship.cross(1), 2);
        due("terminal(2, 0, 0)", ship.terminal(2, 0, 0), 1);
        due("cross(2)", ship.cross(2), 3);
        due("terminal(2, 0, 0)", ship.terminal(2, 0, 0), 0);
        due("cross(2)", ship.cross(2), 2);
        ship.hang(2, 2, true);
        due("cross(2) with too much behind it", ship.cross(2), 1);
        due("terminal(1, 0, 4)", ship.terminal(1, 0, 4), 1);
        due("box(2, 1)", ship.box(2, 1), 1);
        thrown(ship, "cross(0)", INDEX, () -> ship.cross(0));
        thrown(ship, "cross(-1)", INDEX, () -> ship.cross(-1));
        thrown(ship, "cross(3)", INDEX, () -> ship.cross(3));
    }

    private static void replace() {
        ShipLanterns ship = planned("0>5,60;1*6");
        due("terminal(1, 0, 4)", ship.terminal(1, 0, 4), 1);
        due("replace(1, 0, 4)", ship.replace(1, 0, 4), 0);
        counts(ship, "behind it", 2, 1, 0, 0, 0, 1, 9, 2);
        due("terminal(1, 0, 3)", ship.terminal(1, 0, 3), 4);
        due("replace(1, 0, 6)", ship.replace(1, 0, 6), 1);
        counts(ship, "behind it", 2, 1, 1, 0, 0, 0, 8, 2);
        due("replace(1, 1, 60) of a whole fuse", ship.replace(1, 1, 60), 1);
        due("replace(1, 1, 1) of a whole fuse", ship.replace(1, 1, 1), 0);
        terminalIs(ship, 1, 1, 1, 0, 0, 1, 1, 0);
        thrown(ship, "replace(0, 0, 5)", INDEX, () -> ship.replace(0, 0, 5));
        thrown(ship, "replace(2, 0, 5)", INDEX, () -> ship.replace(2, 0, 5));
        thrown(ship, "replace(1, 2, 5)", INDEX, () -> ship.replace(1, 2, 5));
        thrown(ship, "replace(1, -1, 0)", INDEX, () -> ship.replace(1, -1, 0));
        thrown(ship, "replace(1, 0, 0)", ARGUMENT, () -> ship.replace(1, 0, 0));
        thrown(ship, "replace(1, 0, 61)", ARGUMENT, () -> ship.replace(1, 0, 61));
        for (int left = ship.count(6); left > 0; left--) {
            ship.replace(1, 0, 60);
        }
        thrown(ship, "replace without a spare fuse", STATE, () -> ship.replace(1, 0, 5));
        thrown(ship, "replace by rating 0 without a spare fuse", ARGUMENT, () -> ship.replace(1, 0, 0));
        thrown(ship, "replace(0) without a spare fuse", INDEX, () -> ship.replace(0, 0, 5));
    }

    private static void buyFuses() {
        ShipLanterns ship = new ShipLanterns();
        thrown(ship, "buyFuses(0)", ARGUMENT, () -> ship.buyFuses(0));
        thrown(ship, "buyFuses(21)", ARGUMENT, () -> ship.buyFuses(21));
        thrown(ship, "buyFuses(most)", ARGUMENT, () -> ship.buyFuses(Integer.MAX_VALUE));
        due("buyFuses(20)", ship.buyFuses(20), 30);
        due("buyFuses(1)", ship.buyFuses(1), 31);
        thrown(ship, "buyFuses(20) at 31", STATE, () -> ship.buyFuses(20));
        due("buyFuses(19)", ship.buyFuses(19), 50);
        thrown(ship, "buyFuses(1) at 50", STATE, () -> ship.buyFuses(1));
        thrown(ship, "buyFuses(21) at 50", ARGUMENT, () -> ship.buyFuses(21));
        counts(ship, "behind three", 1, 0, 0, 0, 0, 0, 50, 0, 0, 0, 0, 3);
    }

    private static void hang() {
        ShipLanterns ship = planned("0%8,60");
        due("hang(1, 8)", ship.hang(1, 8, false), 0);
        due("hang(1, 1, true)", ship.hang(1, 1, true), 1);
        lanternIs(ship, 0, 1, 8, 0, 0);
        lanternIs(ship, 1, 1, 1, 1, 4);
        due("hang(1, 1) blows a fuse", ship.hang(1, 1, false), 2);
        counts(ship, "behind it", 2, 3, 0, 0, 0, 1, 10, 1);
        thrown(ship, "hang(2, 5)", INDEX, () -> ship.hang(2, 5, false));
        thrown(ship, "hang(-1, 0)", INDEX, () -> ship.hang(-1, 0, false));
        thrown(ship, "hang(0, 0)", ARGUMENT, () -> ship.hang(0, 0, false));
        thrown(ship, "hang(0, 10)", ARGUMENT, () -> ship.hang(0, 10, true));
        for (int number = 3; number < 16; number++) {
            due("hang(0, 9)", ship.hang(0, 9, true), number);
        }
        thrown(ship, "a 17th lantern", STATE, () -> ship.hang(0, 1, false));
        thrown(ship, "a 17th lantern of 10 units", ARGUMENT, () -> ship.hang(0, 10, false));
        thrown(ship, "a 17th lantern at no box", INDEX, () -> ship.hang(2, 1, false));
    }

    private static void takeDown() {
        ShipLanterns ship = planned("0%20,20;0*1;1!2;1*3;0!4");
        thrown(ship, "takeDown(4)", INDEX, () -> ship.takeDown(4));
        thrown(ship, "takeDown(-1)", INDEX, () -> ship.takeDown(-1));
        due("takeDown(1)", ship.takeDown(1), 0);
        lanternIs(ship, 0, 0, 1, 0, 0);
        lanternIs(ship, 1, 1, 3, 0, 0);
        lanternIs(ship, 2, 0, 4, 1, 0);
        due("takeDown(2)", ship.takeDown(2), 1);
        due("takeDown(0)", ship.takeDown(0), 1);
        due("terminal(0, 0, 2)", ship.terminal(0, 0, 2), 3);
        counts(ship, "behind three", 2, 1, 1, 0, 0, 0, 10, 0, 0, 0, 0, 4);
        thrown(ship, "takeDown(1)", INDEX, () -> ship.takeDown(1));
        ShipLanterns full = new ShipLanterns();
        for (int number = 0; number < 16; number++) {
            full.hang(0, 1 + number % 9, number % 2 == 1);
        }
        due("takeDown(0) of 16", full.takeDown(0), 1);
        due("takeDown(14) of 15", full.takeDown(14), 1);
        for (int number = 0; number < 14; number++) {
            lanternIs(full, number, 0, 1 + (number + 1) % 9, (number + 1) % 2, 0);
        }
    }

    private static void fault() {
        ShipLanterns ship = planned("0>10,60;1>5,60");
        due("fault(2, 0, 8) alone", ship.fault(2, 0, 8), 0);
        due("fault(1, 0, 12) on the same pole", ship.fault(1, 0, 12), 0);
        // At first 8 of 12 flow at box 2; when its fuse has blown, all 12 flow at box 1.
        due("fault(0, 1, 12)", ship.fault(0, 1, 12), 2);
        terminalIs(ship, 2, 0, 0, 0, 0, 5, 1, 8);
        terminalIs(ship, 1, 0, 0, 0, 0, 10, 1, 12);
        counts(ship, "behind them", 3, 0, 0, 3, 0, 2, 10, 2, 0, 0, 0, 4);
        thrown(ship, "fault(3, 0, 5)", INDEX, () -> ship.fault(3, 0, 5));
        thrown(ship, "fault(-1, 0, 5)", INDEX, () -> ship.fault(-1, 0, 5));
        thrown(ship, "fault(0, 2, 5)", INDEX, () -> ship.fault(0, 2, 5));
        thrown(ship, "fault(0, -1, 0)", INDEX, () -> ship.fault(0, -1, 0));
        thrown(ship, "fault(0, 0, 0)", ARGUMENT, () -> ship.fault(0, 0, 0));
        thrown(ship, "fault(0, 0, 31)", ARGUMENT, () -> ship.fault(0, 0, 31));
        for (int number = 3; number < 8; number++) {
            due("fault(0, 1, 30)", ship.fault(0, 1, 30), 0);
        }
        thrown(ship, "a 9th fault", STATE, () -> ship.fault(0, 0, 5));
        thrown(ship, "a 9th fault of strength 31", ARGUMENT, () -> ship.fault(0, 0, 31));
        thrown(ship, "a 9th fault at no terminal", INDEX, () -> ship.fault(0, 2, 5));
    }

    private static void fuseOrder() {
        // All fuses behind box 1 are too weak for 9 units: the deepest box goes first, then the lowest, terminal 0.
        ShipLanterns ship = planned("0>8,8;1>8,8;1>8,8;0>8,8");
        for (int box = 1; box < 5; box++) {
            ship.toggle(box);
            ship.hang(box, 9, false);
        }
        ship.toggle(4);
        due("terminal(4, 0, 4)", ship.terminal(4, 0, 4), 1);
        due("terminal(4, 1, 4)", ship.terminal(4, 1, 4), 0);
        ship.toggle(3);
        ship.toggle(2);
        due("count(7)", ship.count(7), 1);
        ship.toggle(1);
        due("count(7)", ship.count(7), 4);
        for (int box = 1; box < 4; box++) {
            due("terminal(" + box + ", 0, 4)", ship.terminal(box, 0, 4), 1);
            due("terminal(" + box + ", 1, 4)", ship.terminal(box, 1, 4), 0);
        }
        // Once the fuse of box 3 has blown, what is left is little enough for box 1.
        ShipLanterns spared = planned("0>9,9;1>3,9;2>3,9;0*9;2*2;1*3;3*4");
        counts(spared, "with one fuse blown", 4, 4, 3, 0, 0, 1, 10, 1);
        due("terminal(3, 0, 4)", spared.terminal(3, 0, 4), 1);
        // Just as much as the rating does no harm.
        counts(planned("0>9,9;1*9"), "at the rating", 2, 1, 1, 0, 0, 0);
        // Of two boxes of one depth the lower one goes first, and that ends the leak.
        ShipLanterns even = planned("0>5,5;0>5,5;1#0,6;2#1,6");
        due("terminal(1, 0, 4)", even.terminal(1, 0, 4), 1);
        due("terminal(2, 1, 4)", even.terminal(2, 1, 4), 0);
    }

    private static void mend() {
        ShipLanterns ship = planned("0>5,60;0#0,10;1#0,11;0#1,9");
        due("terminal(1, 0, 2)", ship.terminal(1, 0, 2), 0);
        thrown(ship, "mend(3)", INDEX, () -> ship.mend(3));
        thrown(ship, "mend(-1)", INDEX, () -> ship.mend(-1));
        // What flowed through the first fault must flow through box 1 now.
        due("mend(0)", ship.mend(0), 10);
        counts(ship, "behind it", 2, 0, 0, 2, 0, 1, 10, 1, 0, 0, 0, 2);
        faultIs(ship, 0, 1, 0, 11, 0, 0);
        faultIs(ship, 1, 0, 1, 9, 1, 0);
        due("mend(1)", ship.mend(1), 9);
        due("mend(0)", ship.mend(0), 11);
        thrown(ship, "mend(0)", INDEX, () -> ship.mend(0));
    }

    private static void burn() {
        ShipLanterns ship = planned("0%9,9;0*3;1*4;1!5;0#0,2;0#1,7");
        thrown(ship, "burn(0)", ARGUMENT, () -> ship.burn(0));
        thrown(ship, "burn(1001)", ARGUMENT, () -> ship.burn(1001));
        due("burn(10)", ship.burn(10), 70);
        counts(ship, "behind it", 2, 3, 2, 2, 2, 0, 10, 0, 10, 70, 20, 2);
        due("burn(1)", ship.burn(1), 7);
        for (int thousand = 1; thousand < 100; thousand++) {
            due("burn(1000)", ship.burn(1000), 7000);
        }
        thrown(ship, "burn(990)", STATE, () -> ship.burn(990));
        due("burn(989)", ship.burn(989), 6923);
        counts(ship, "at the end", 2, 3, 2, 2, 2, 0, 10, 0, 100000, 700000, 200000, 6);
        thrown(ship, "burn(1) at 100000", STATE, () -> ship.burn(1));
        thrown(ship, "burn(1001) at 100000", ARGUMENT, () -> ship.burn(1001));
    }

    private static void append() {
        ShipLanterns ship = new ShipLanterns();
        thrown(ship, "append(32)", ARGUMENT, () -> ship.append(32));
        thrown(ship, "append(127)", ARGUMENT, () -> ship.append(127));
        thrown(ship, "append(-1)", ARGUMENT, () -> ship.append(-1));
        due("append(33)", ship.append(33), 1);
        for (int length = 2; length <= 60; length++) {
            due("append(126)", ship.append(126), length);
        }
        thrown(ship, "append(48) at 60", STATE, () -> ship.append(48));
        thrown(ship, "append(32) at 60", ARGUMENT, () -> ship.append(32));
        due("count(11)", ship.count(11), 0);
    }

    private static void clearBuffer() {
        ShipLanterns ship = new ShipLanterns();
        type(ship, "0>5");
        due("clearBuffer()", ship.clearBuffer(), 3);
        due("clearBuffer() again", ship.clearBuffer(), 0);
        due("append behind it", ship.append('1'), 1);
        due("count(11)", ship.count(11), 0);
    }

    /** The text stands whole or up to the bar; the sign behind the bar is the first error. */
    private static void errorAt(String marked) {
        int bar = marked.indexOf('|');
        ShipLanterns ship = new ShipLanterns();
        type(ship, bar < 0 ? marked : marked.substring(0, bar) + marked.substring(bar + 1));
        long before = ship.digest();
        due("firstError() of " + marked, ship.firstError(), bar < 0 ? marked.length() : bar);
        due("digest() behind firstError()", ship.digest(), before);
    }

    private static void firstError() {
        String[] texts = {
            "", "|;", "|,", "|>", "|a", "|-", "0", "0|0", "0|1", "0|;", "0|,", "1", "10", "11", "1|2", "1|9", "11|0",
            "11|1", "2|0", "9|1", "9*1", "0|a", "0>", "0>|0", "0>|;", "0>|,", "0>|>", "0>1", "0>1|;", "0>9|0", "0>60",
            "0>6|1", "0>60|0", "0>59", "0>59|9", "0>7|0", "0>5,", "0>5,|,", "0>5,|0", "0>5,|;", "0>5,60", "0>5,6|1",
            "0>5,7|0", "0>5,5|,", "0>5,5;", "0>5,5;|;", "0>5,5;|>", "0>5,5;11%60,59;0", "0%5,5", "0%|0", "0%6|1",
            "0>5|>", "0>5|%", "0*", "0*|0", "0*1", "0*9", "0*9|0", "0*1|1", "0*9|,", "0*9;", "0*|;", "0!", "0!|0",
            "0!9;3!1", "0!9|!", "0#", "0#0", "0#1", "0#|2", "0#|,", "0#0|0", "0#0|1", "0#1|0", "0#1|;", "0#1,",
            "0#1,|0", "0#1,1", "0#1,30", "0#1,3|1", "0#1,30|0", "0#1,29", "0#1,4|0", "0#0,9|,", "0#0,9;1#|2,1",
            "11!9;11#0,30;11%9,60", "0>5,5|x>5", "0|?", "0>5|~"
        };
        for (String text : texts) {
            errorAt(text);
        }
        errorAt("0>5,5;0>5,5;0>5,5;0>5,5;0>5,5;0>5,5;0>5,5;0>5,5;0>5,5;0>5,5;");
    }

    private static void load() {
        ShipLanterns ship = new ShipLanterns();
        check.dueThrow("load() of nothing", ARGUMENT, ship::load);
        String[] incomplete = {
            "0", "0>", "0>5", "0>5,", "0>5,5;", "0*", "0!", "0#", "0#1", "0#1,", "0*5;1", "00", "0*0", "0*5*5",
            "0>5;", "0>5;1*1", "0#1;0*1"
        };
        for (String text : incomplete) {
            ship.clearBuffer();
            type(ship, text);
            thrown(ship, "load() of " + text, ARGUMENT, ship::load);
            due("clearBuffer() behind load() of " + text, ship.clearBuffer(), text.length());
        }
        due("load()", load(ship, "0>11,60;1%7,10;1*6;2!1;2#0,30;0#0,2"), 6);
        boxIs(ship, 1, 0, 0, 1, 1, 1, 1, 6);
        boxIs(ship, 2, 1, 1, 1, 2, 0, 0, 1);
        due("terminal(1, 0, 3)", ship.terminal(1, 0, 3), 11);
        due("terminal(1, 1, 3)", ship.terminal(1, 1, 3), 60);
        due("terminal(2, 0, 3)", ship.terminal(2, 0, 3), 7);
        due("terminal(2, 1, 3)", ship.terminal(2, 1, 3), 10);
        lanternIs(ship, 0, 1, 6, 0, 0);
        lanternIs(ship, 1, 2, 1, 1, 4);
        faultIs(ship, 0, 2, 0, 30, 1, 2);
        faultIs(ship, 1, 0, 0, 2, 0, 2);
        due("clearBuffer() behind load()", ship.clearBuffer(), 0);
        due("count(11)", ship.count(11), 1);
        due("undo()", ship.undo(), 0);
        counts(ship, "behind undo()", 1, 0, 0, 0, 0, 0, 10, 0, 0, 0, 0, 0);
        // Each part settles: the fuse of box 1 has blown before the lantern at box 2 could harm the fuse there.
        ShipLanterns settled = planned("0>6,60;1>8,60;1*7;2*9");
        due("count(7)", settled.count(7), 1);
        due("terminal(2, 0, 4)", settled.terminal(2, 0, 4), 0);
    }

    private static void loadRefused() {
        ShipLanterns ship = new ShipLanterns();
        due("load() of a part at no box", load(ship, "1*5;0*5"), 0);
        counts(ship, "behind it", 1, 0, 0, 0, 0, 0, 10, 0, 0, 0, 0, 1);
        due("clearBuffer() behind it", ship.clearBuffer(), 0);
        due("load() up to a box at no box", load(ship, "0*5;2>5,5;0*5"), 1);
        due("load() up to a fault at no box", load(ship, "0!5;1#0,5;0*5"), 1);
        due("count(1)", ship.count(1), 2);
        due("undo()", ship.undo(), 2);
        due("count(1)", ship.count(1), 1);
        for (int number = 1; number < 11; number++) {
            ship.addBox(0, 5, 5, false);
        }
        due("load() of a 12th and 13th box", load(ship, "0>1,1;0%2,2;0*1"), 1);
        for (int number = 1; number < 15; number++) {
            ship.hang(0, 1, true);
        }
        due("load() of a 16th and 17th lantern", load(ship, "0*2;0!3;0#0,1"), 1);
        for (int number = 0; number < 7; number++) {
            ship.fault(0, 0, 1);
        }
        due("load() of an 8th and 9th fault", load(ship, "0#1,2;0#0,3"), 1);
        counts(ship, "at all limits", 12, 16, 16, 8, 2, 0, 10, 0, 0, 0, 0, 6);
        due("load() of a 13th box", load(ship, "0%2,2"), 0);
        due("load() of a 17th lantern", load(ship, "0!2"), 0);
        due("load() of a 9th fault", load(ship, "0#0,2"), 0);
    }

    private static void undo() {
        ShipLanterns ship = new ShipLanterns();
        for (int many = 1; many < 9; many++) {
            ship.buyFuses(many);
            due("count(11)", ship.count(11), many < 6 ? many : 6);
        }
        type(ship, "0*5");
        thrown(ship, "buyFuses(0)", ARGUMENT, () -> ship.buyFuses(0));
        due("count(6)", ship.count(6), 46);
        int[] wants = {38, 31, 25, 20, 16, 13};
        for (int i = 0; i < 6; i++) {
            due("undo()", ship.undo(), 5 - i);
            due("count(6)", ship.count(6), wants[i]);
        }
        thrown(ship, "undo() without a saved state", STATE, ship::undo);
        due("clearBuffer(), which undo() leaves alone", ship.clearBuffer(), 3);
        ship.buyFuses(1);
        ship.buyFuses(2);
        due("undo()", ship.undo(), 1);
        ship.buyFuses(4);
        due("count(6)", ship.count(6), 18);
        due("undo()", ship.undo(), 1);
        due("count(6)", ship.count(6), 14);
    }

    /** Undo brings back the whole state: the digest, but for the saved states in it, is as it was. */
    private static void undoOfEach() {
        ShipLanterns ship = planned("0%9,9;1>7,7;1*3;2!4;0*1;1#0,5;0#0,6");
        Runnable[] changes = {
            () -> ship.addBox(2, 5, 5, true), () -> ship.toggle(1), () -> ship.cross(2), () -> ship.replace(1, 1, 3),
            () -> ship.buyFuses(3), () -> ship.hang(2, 9, false), () -> ship.takeDown(1), () -> ship.fault(2, 1, 9),
            () -> ship.mend(0), () -> ship.burn(7), () -> load(ship, "2*9;1>5,5;1#1,8;0!3"), () -> load(ship, "11*1")
        };
        long before = ship.digest();
        for (int i = 0; i < changes.length; i++) {
            changes[i].run();
            due("count(11) behind change " + i, ship.count(11), 2);
            due("undo() of change " + i, ship.undo(), 1);
            due("digest() behind undo() of change " + i, ship.digest(), before);
        }
    }

    /** A box that comes again is a new one: nothing of the one that was undone is left. */
    private static void undoOfBoxes() {
        ShipLanterns ship = new ShipLanterns();
        for (int terminal = 0; terminal < 2; terminal++) {
            load(ship, terminal == 0 ? "0%5,60;1*9" : "0%60,5;1*9");
            due("terminal(1, " + terminal + ", 4)", ship.terminal(1, terminal, 4), 1);
            ship.undo();
            ship.addBox(0, 30, 31, false);
            boxIs(ship, 1, 0, 0, 1, 1, 0, 0, 0);
            terminalIs(ship, 1, 0, 0, 1, 0, 30, 0, 0);
            terminalIs(ship, 1, 1, 1, 1, 0, 31, 0, 0);
            ship.undo();
        }
    }

    private static void box() {
        ShipLanterns ship = planned("0>50,50;1%50,50;1>50,50;3>50,50;2*1;2!2;2*3;0*9");
        boxIs(ship, 0, -1, -1, -1, 0, 4, 1, 9);
        boxIs(ship, 1, 0, 0, 1, 1, 3, 0, 0);
        boxIs(ship, 2, 1, 1, 1, 2, 0, 2, 6);
        boxIs(ship, 3, 1, 0, 1, 2, 1, 0, 0);
        boxIs(ship, 4, 3, 0, 1, 3, 0, 0, 0);
        ship.toggle(1);
        boxIs(ship, 1, 0, 0, 0, 1, 3, 0, 0);
        boxIs(ship, 2, 1, 1, 1, 2, 0, 0, 6);
        thrown(ship, "box(5, 0)", INDEX, () -> ship.box(5, 0));
        thrown(ship, "box(-1, 7)", INDEX, () -> ship.box(-1, 7));
        thrown(ship, "box(0, 7)", ARGUMENT, () -> ship.box(0, 7));
        thrown(ship, "box(0, -1)", ARGUMENT, () -> ship.box(0, -1));
    }

    private static void terminal() {
        ShipLanterns ship = planned("0%20,30;1>10,10;2%9,8;3*2;1!9;3#0,5;2#0,3;0#1,1;3#0,4");
        // The way from terminal 0 of box 3: 2/1, 1/1, 0/0.
        terminalIs(ship, 3, 0, 0, 1, 6, 9, 0, 9);
        terminalIs(ship, 3, 1, 1, 1, 2, 8, 0, 0);
        terminalIs(ship, 2, 0, 1, 1, 5, 10, 0, 3);
        terminalIs(ship, 2, 1, 0, 1, 6, 10, 0, 0);
        terminalIs(ship, 1, 0, 1, 1, 5, 20, 0, 0);
        terminalIs(ship, 1, 1, 0, 1, 6, 30, 0, 0);
        terminalIs(ship, 0, 0, 0, 1, 6, -1, -1, 0);
        terminalIs(ship, 0, 1, 1, 1, 6, -1, -1, 1);
        ship.replace(1, 1, 5);
        terminalIs(ship, 1, 1, 0, 0, 0, 5, 1, 0);
        terminalIs(ship, 3, 0, 0, 0, 0, 9, 0, 9);
        terminalIs(ship, 3, 1, 1, 1, 0, 8, 0, 0);
        ship.toggle(2);
        terminalIs(ship, 2, 0, 1, 0, 0, 10, 0, 3);
        terminalIs(ship, 3, 1, 1, 0, 0, 8, 0, 0);
        thrown(ship, "terminal(4, 0, 0)", INDEX, () -> ship.terminal(4, 0, 0));
        thrown(ship, "terminal(-1, 0, 0)", INDEX, () -> ship.terminal(-1, 0, 0));
        thrown(ship, "terminal(0, 2, 6)", INDEX, () -> ship.terminal(0, 2, 6));
        thrown(ship, "terminal(0, -1, 0)", INDEX, () -> ship.terminal(0, -1, 0));
        thrown(ship, "terminal(0, 0, 6)", ARGUMENT, () -> ship.terminal(0, 0, 6));
        thrown(ship, "terminal(0, 0, -1)", ARGUMENT, () -> ship.terminal(0, 0, -1));
    }

    private static void lantern() {
        ShipLanterns ship = planned("0%9,9;1>9,9;2*4;2!5");
        lanternIs(ship, 0, 2, 4, 0, 0);
        lanternIs(ship, 1, 2, 5, 1, 4);
        // Terminal 0 of box 2 comes from 1/0.
        ship.replace(1, 0, 3);
        lanternIs(ship, 0, 2, 4, 0, 2);
        lanternIs(ship, 1, 2, 5, 1, 2);
        ship.cross(2);
        lanternIs(ship, 0, 2, 4, 0, 3);
        lanternIs(ship, 1, 2, 5, 1, 3);
        ship.toggle(1);
        lanternIs(ship, 0, 2, 4, 0, 1);
        lanternIs(ship, 1, 2, 5, 1, 1);
        ship.replace(1, 0, 60);
        ship.toggle(1);
        lanternIs(ship, 0, 2, 4, 0, 0);
        lanternIs(ship, 1, 2, 5, 1, 0);
        // Both fuses blown on the way: terminal 0 is named first.
        ship.replace(2, 1, 8);
        ship.cross(2);
        ship.replace(1, 1, 1);
        due("terminal(2, 1, 4)", ship.terminal(2, 1, 4), 1);
        ship.replace(2, 1, 60);
        due("terminal(1, 1, 4)", ship.terminal(1, 1, 4), 1);
        lanternIs(ship, 0, 2, 4, 0, 3);
        ship.cross(2);
        lanternIs(ship, 0, 2, 4, 0, 2);
        thrown(ship, "lantern(2, 0)", INDEX, () -> ship.lantern(2, 0));
        thrown(ship, "lantern(-1, 4)", INDEX, () -> ship.lantern(-1, 4));
        thrown(ship, "lantern(0, 4)", ARGUMENT, () -> ship.lantern(0, 4));
        thrown(ship, "lantern(0, -1)", ARGUMENT, () -> ship.lantern(0, -1));
    }

    private static void faultAt() {
        ShipLanterns ship = planned("0%50,50;1#0,5;0#0,4;1#1,3;1#1,9;0#1,2");
        // Pole 0: 4, 3 and 9; pole 1: 5 and 2, so that 7 leak.
        faultIs(ship, 0, 1, 0, 5, 1, 5);
        faultIs(ship, 1, 0, 0, 4, 0, 4);
        faultIs(ship, 2, 1, 1, 3, 0, 3);
        faultIs(ship, 3, 1, 1, 9, 0, 0);
        faultIs(ship, 4, 0, 1, 2, 1, 2);
        ship.toggle(1);
        faultIs(ship, 0, 1, 0, 5, 1, 0);
        faultIs(ship, 1, 0, 0, 4, 0, 2);
        faultIs(ship, 3, 1, 1, 9, 0, 0);
        thrown(ship, "faultAt(5, 0)", INDEX, () -> ship.faultAt(5, 0));
        thrown(ship, "faultAt(-1, 5)", INDEX, () -> ship.faultAt(-1, 5));
        thrown(ship, "faultAt(0, 5)", ARGUMENT, () -> ship.faultAt(0, 5));
        thrown(ship, "faultAt(0, -1)", ARGUMENT, () -> ship.faultAt(0, -1));
    }

    private static void count() {
        ShipLanterns ship = planned("0>5,60;0%60,60;1*6;2!1;2*2;0#0,3;2#0,2");
        ship.burn(4);
        counts(ship, "of a ship with one fuse blown", 3, 3, 1, 2, 2, 1, 10, 1, 4, 8, 8, 2);
        ship.replace(1, 0, 4);
        counts(ship, "when it has blown again", 3, 3, 1, 2, 2, 1, 9, 2, 4, 8, 8, 3);
        thrown(ship, "count(12)", ARGUMENT, () -> ship.count(12));
        thrown(ship, "count(-1)", ARGUMENT, () -> ship.count(-1));
    }

    private static void lamp() {
        ShipLanterns ship = planned("0%50,50;1#0,5;0#0,4;1#1,3;0#1,2");
        due("lamp(0)", ship.lamp(0), 7);
        due("lamp(1)", ship.lamp(1), 7);
        ship.toggle(1);
        due("lamp(0)", ship.lamp(0), 4);
        due("lamp(1)", ship.lamp(1), 2);
        due("count(4)", ship.count(4), 2);
        thrown(ship, "lamp(2)", INDEX, () -> ship.lamp(2));
        thrown(ship, "lamp(-1)", INDEX, () -> ship.lamp(-1));
    }

    private static void locate() {
        ShipLanterns ship = planned("0>50,50;1%50,50;1>50,50;0>50,50;2#0,5;4#0,1;0#0,2;0#1,2");
        due("locate(0)", ship.locate(0), 1 << 4);
        due("locate(1)", ship.locate(1), 1 << 1 | 1 << 2);
        ship.fault(3, 0, 30);
        due("locate(0)", ship.locate(0), 1 << 1 | 1 << 3 | 1 << 4);
        // What is dead already makes no change, whether by a switch or by a fuse.
        ship.toggle(2);
        due("locate(1)", ship.locate(1), 0);
        ship.toggle(2);
        due("locate(1)", ship.locate(1), 1 << 1 | 1 << 2);
        ship.toggle(1);
        due("locate(1)", ship.locate(1), 0);
        ship.toggle(1);
        ship.replace(2, 0, 1);
        due("terminal(2, 0, 4)", ship.terminal(2, 0, 4), 1);
        due("locate(1)", ship.locate(1), 0);
        thrown(ship, "locate(2)", INDEX, () -> ship.locate(2));
        thrown(ship, "locate(-1)", INDEX, () -> ship.locate(-1));
    }

    private static void ifFaultIs(ShipLanterns ship, int box, int terminal, int strength, int... wants) {
        long before = ship.digest();
        for (int what = 0; what < wants.length; what++) {
            due("ifFault(" + box + ", " + terminal + ", " + strength + ", " + what + ")",
                    ship.ifFault(box, terminal, strength, what), wants[what]);
        }
        due("digest() behind ifFault()", ship.digest(), before);
    }

    private static void ifFault() {
        ShipLanterns ship = planned("0>10,60;1>5,60;2#0,8;1#0,12;2*1;1*1;0*1");
        ifFaultIs(ship, 0, 1, 12, 2, 1, 0, 200);
        ifFaultIs(ship, 0, 1, 4, 0, 3, 4, -1);
        ifFaultIs(ship, 0, 1, 5, 1, 2, 5, 200);
        ifFaultIs(ship, 0, 0, 30, 0, 3, 0, -1);
        ShipLanterns full = planned("0>60,3;0#0,1;0#0,1;0#0,1;0#0,1;0#0,1;0#0,1;0#0,1");
        ifFaultIs(full, 1, 1, 3, 0, 0, 3, -1);
        full.fault(0, 0, 1);
        ifFaultIs(full, 1, 1, 30, 1, 0, 0, 110);
        due("count(3)", full.count(3), 8);
        thrown(ship, "ifFault(3, 0, 5, 0)", INDEX, () -> ship.ifFault(3, 0, 5, 0));
        thrown(ship, "ifFault(-1, 0, 5, 0)", INDEX, () -> ship.ifFault(-1, 0, 5, 0));
        thrown(ship, "ifFault(0, 2, 31, 4)", INDEX, () -> ship.ifFault(0, 2, 31, 4));
        thrown(ship, "ifFault(0, -1, 5, 0)", INDEX, () -> ship.ifFault(0, -1, 5, 0));
        thrown(ship, "ifFault(0, 0, 0, 0)", ARGUMENT, () -> ship.ifFault(0, 0, 0, 0));
        thrown(ship, "ifFault(0, 0, 31, 0)", ARGUMENT, () -> ship.ifFault(0, 0, 31, 0));
        thrown(ship, "ifFault(0, 0, 5, -1)", ARGUMENT, () -> ship.ifFault(0, 0, 5, -1));
        thrown(ship, "ifFault(0, 0, 5, 4)", ARGUMENT, () -> ship.ifFault(0, 0, 5, 4));
    }

    private static void ifToggled() {
        ShipLanterns ship = planned("0>9,60;1>60,60;2>60,60;1*5;2*4;3*3;0*1");
        due("count(2) with one fuse blown", ship.count(2), 1);
        ship.replace(1, 0, 60);
        ship.toggle(3);
        ship.replace(1, 0, 9);
        long before = ship.digest();
        due("ifToggled(1)", ship.ifToggled(1), 1);
        due("ifToggled(2)", ship.ifToggled(2), 2);
        due("ifToggled(3), by which a fuse blows", ship.ifToggled(3), 1);
        due("digest() behind ifToggled()", ship.digest(), before);
        thrown(ship, "ifToggled(0)", INDEX, () -> ship.ifToggled(0));
        thrown(ship, "ifToggled(4)", INDEX, () -> ship.ifToggled(4));
        thrown(ship, "ifToggled(-1)", INDEX, () -> ship.ifToggled(-1));
    }

    private static void neededRating() {
        ShipLanterns ship = planned("0>9,60;1%2,60;1*5;2*5;2!9;2#0,3;0#0,7;1#1,4");
        due("count(5)", ship.count(5), 1);
        long before = ship.digest();
        // Pole 0: 7; pole 1: 3 and 4, so that 7 leak.
        due("neededRating(1, 0)", ship.neededRating(1, 0), 10);
        due("neededRating(1, 1)", ship.neededRating(1, 1), 17);
        due("neededRating(2, 0)", ship.neededRating(2, 0), 8);
        due("neededRating(2, 1)", ship.neededRating(2, 1), 5);
        due("digest() behind neededRating()", ship.digest(), before);
        ship.toggle(2);
        due("neededRating(2, 0) with an open switch", ship.neededRating(2, 0), 0);
        due("neededRating(1, 1) with an open switch", ship.neededRating(1, 1), 9);
        thrown(ship, "neededRating(0, 0)", INDEX, () -> ship.neededRating(0, 0));
        thrown(ship, "neededRating(3, 0)", INDEX, () -> ship.neededRating(3, 0));
        thrown(ship, "neededRating(-1, 0)", INDEX, () -> ship.neededRating(-1, 0));
        thrown(ship, "neededRating(1, 2)", INDEX, () -> ship.neededRating(1, 2));
        thrown(ship, "neededRating(1, -1)", INDEX, () -> ship.neededRating(1, -1));
    }

    private static void lossShare() {
        ShipLanterns ship = planned("0#0,2;0#1,7");
        check.dueDouble("lossShare() at first", ship.lossShare(), 0.0);
        ship.burn(10);
        check.dueDouble("lossShare() of losses alone", ship.lossShare(), 1.0);
        ship.hang(0, 7, true);
        ship.burn(10);
        check.dueDouble("lossShare()", ship.lossShare(), 40.0 / 110.0);
        ship.undo();
        check.dueDouble("lossShare() behind undo()", ship.lossShare(), 1.0);
        ShipLanterns tight = planned("0*3");
        tight.burn(1);
        check.dueDouble("lossShare() without a loss", tight.lossShare(), 0.0);
    }

    private static long hash(long... values) {
        long hash = 2141;
        for (long value : values) {
            hash = 31 * hash + value;
        }
        return hash;
    }

    private static void digest() {
        ShipLanterns ship = new ShipLanterns();
        due("digest() of a new object", ship.digest(), hash(
                1, 0, 0, 0, 0, 0, 10, 0, 0, 0, 0, 0,
                -1, -1, -1, 0, 0, 0, 0, 0, 1, 0, -1, -1, 0, 1, 1, 0, -1, -1, 0,
                0, 0, 0, 0,
                0, 0));
        type(ship, "0~");
        due("digest() with a text", ship.digest(), hash(
                1, 0, 0, 0, 0, 0, 10, 0, 0, 0, 0, 0,
                -1, -1, -1, 0, 0, 0, 0, 0, 1, 0, -1, -1, 0, 1, 1, 0, -1, -1, 0,
                0, 0, 0, 0,
                0, 2, 48, 126));
    }

    private static void digestOfAll() {
        ShipLanterns ship = planned("0%20,30;1*4;1#0,6;0#0,2");
        ship.burn(3);
        ship.append('!');
        due("digest() of a ship with one of each", ship.digest(), hash(
                2, 1, 1, 2, 2, 0, 10, 0, 3, 12, 6, 2,
                -1, -1, -1, 0, 1, 0, 0, 0, 1, 6, -1, -1, 2, 1, 1, 6, -1, -1, 0,
                0, 1, 1, 1, 0, 1, 4, 1, 1, 6, 20, 0, 6, 0, 1, 4, 30, 0, 0,
                1, 4, 0, 0,
                1, 0, 6, 1, 2, 0, 0, 2, 0, 2,
                2, 0, 6, 2,
                0, 6, 4,
                Double.doubleToLongBits(6.0 / 18.0), 1, 33));
    }
}
