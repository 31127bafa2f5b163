/** The input text at its edges: which signs may follow, which text is a complete plan, the empty and the full buffer. */
public final class PlanTest extends ShipCheck {
    private static final String DIGITS = "0123456789";
    private static final String FROM_ONE = "123456789";
    private static final String KINDS = ">%*!#";
    private static final String SIXTY = "0>10,10;1%10,10;2>10,10;0*1;0*1;0*1;0*1;0*1;0*1;0*1;0*1;10*1";

    public static void main(String[] args) {
        begin("PlanTest");
        followingOfBoxNumbers();
        followingOfBoxes();
        followingOfLanterns();
        followingOfFaults();
        numbers();
        firstErrorIsTheFirst();
        emptyBuffer();
        fullBuffer();
        completePlans();
        loadKeepsTheLimits();
        loadLeavesNoTrace();
        check.end();
    }

    private static ShipLanterns typed(String text) {
        ShipLanterns ship = new ShipLanterns();
        type(ship, text);
        return ship;
    }

    /** Behind the text, which has no error, the signs that follow are none, and every other one is. */
    private static void follow(String text, String follow) {
        due("firstError() of " + text, typed(text).firstError(), text.length());
        for (int sign = 33; sign <= 126; sign++) {
            String longer = text + (char) sign;
            int want = follow.indexOf(sign) >= 0 ? longer.length() : text.length();
            due("firstError() of " + longer, typed(longer).firstError(), want);
        }
    }

    /** "Numbers of boxes (0 to 11)", "all without leading zeros". */
    private static void followingOfBoxNumbers() {
        follow("", DIGITS);
        follow("0", KINDS);
        follow("1", "01" + KINDS);
        for (int box = 2; box <= 11; box++) {
            follow(String.valueOf(box), KINDS);
        }
        follow("0*1;", DIGITS);
        follow("0*1;1", "01" + KINDS);
        follow("0*1;11", KINDS);
    }

    /** "Ratings (1 to 60)". */
    private static void followingOfBoxes() {
        for (String kind : new String[] {"0>", "11%"}) {
            followingOfRatings(kind, ",");
            followingOfRatings(kind + "60,", ";");
        }
        follow("0>5,5;", DIGITS);
    }

    private static void followingOfRatings(String text, String end) {
        follow(text, FROM_ONE);
        for (int rating = 1; rating <= 60; rating++) {
            follow(text + rating, (rating < 6 ? DIGITS : rating == 6 ? "0" : "") + end);
        }
    }

    /** "u is 1 to 9". */
    private static void followingOfLanterns() {
        for (String kind : new String[] {"0*", "11!"}) {
            follow(kind, FROM_ONE);
            for (int units = 1; units <= 9; units++) {
                follow(kind + units, ";");
            }
        }
        follow("0!9;", DIGITS);
    }

    /** "T is 0 or 1, and g is 1 to 30". */
    private static void followingOfFaults() {
        follow("0#", "01");
        follow("11#0", ",");
        follow("11#1", ",");
        follow("0#0,", FROM_ONE);
        for (int strength = 1; strength <= 30; strength++) {
            follow("0#1," + strength, (strength < 3 ? DIGITS : strength == 3 ? "0" : "") + ";");
        }
        follow("0#1,30;", DIGITS);
    }

    /** Each number as the whole that it is: 0 to 120 at each place, whether it is in its range. */
    private static void numbers() {
        for (int number = 0; number <= 120; number++) {
            whole(number + "*1", number <= 11);
            whole("0>" + number + ",1", number >= 1 && number <= 60);
            whole("0>1," + number, number >= 1 && number <= 60);
            whole("0%" + number + ",60", number >= 1 && number <= 60);
            whole("0%60," + number, number >= 1 && number <= 60);
            whole("0*" + number, number >= 1 && number <= 9);
            whole("0!" + number, number >= 1 && number <= 9);
            whole("0#" + number + ",1", number <= 1);
            whole("0#1," + number, number >= 1 && number <= 30);
            for (String leading : new String[] {"0", "00"}) {
                whole(leading + number + "!1", false);
                whole("0>" + leading + number + ",1", false);
                whole("0%1," + leading + number, false);
                whole("0*" + leading + number, false);
                whole("0#" + leading + number + ",1", false);
                whole("0#0," + leading + number, false);
            }
        }
    }

    private static void whole(String text, boolean isPlan) {
        ShipLanterns ship = typed(text);
        due("firstError() of " + text + " is its length", ship.firstError() == text.length() ? 1 : 0, isPlan ? 1 : 0);
        check.dueThrow("load() of " + text, isPlan ? null : ARGUMENT, ship::load);
        due("length behind load() of " + text, ship.clearBuffer(), isPlan ? 0 : text.length());
    }

    /** What stands behind the first error is not looked at, and the error goes when the buffer is cleared. */
    private static void firstErrorIsTheFirst() {
        due("firstError() of ~0*1", typed("~0*1").firstError(), 0);
        due("firstError() of 0*1;~;~", typed("0*1;~;~").firstError(), 4);
        due("firstError() of 0*0;0*1", typed("0*0;0*1").firstError(), 2);
        due("firstError() of 12*1;0>5,5", typed("12*1;0>5,5").firstError(), 1);
        ShipLanterns ship = typed(";");
        due("firstError() of ;", ship.firstError(), 0);
        type(ship, "0*1");
        due("firstError() of ;0*1", ship.firstError(), 0);
        ship.clearBuffer();
        due("firstError() behind clearBuffer()", ship.firstError(), 0);
        type(ship, "0*1");
        due("firstError() of 0*1", ship.firstError(), 3);
        due("firstError() of 0*1 again", ship.firstError(), 3);
        due("load() of 0*1", ship.load(), 1);
        due("firstError() behind load()", ship.firstError(), 0);
    }

    /** "The length of the buffer if there is none": 0 for the empty one, which is no plan ("one or more parts"). */
    private static void emptyBuffer() {
        ShipLanterns ship = new ShipLanterns();
        due("firstError() of nothing", ship.firstError(), 0);
        due("clearBuffer() of nothing", ship.clearBuffer(), 0);
        thrown(ship, "load() of nothing", ARGUMENT, ship::load);
        due("append('0') to nothing", ship.append('0'), 1);
        due("clearBuffer() of one sign", ship.clearBuffer(), 1);
        due("clearBuffer() of nothing", ship.clearBuffer(), 0);
        thrown(ship, "load() of nothing again", ARGUMENT, ship::load);
        due("count(11)", ship.count(11), 0);
    }

    /** "The buffer has at most 60 characters"; "no plan, of any length": a plan that goes on beyond them is no error. */
    private static void fullBuffer() {
        ShipLanterns ship = typed(SIXTY.substring(0, 59));
        due("append() of the 60th sign", ship.append(SIXTY.charAt(59)), 60);
        due("firstError() of 60 signs", ship.firstError(), 60);
        thrown(ship, "append() of a 61st sign", STATE, () -> ship.append(';'));
        thrown(ship, "append() of a 61st sign of code 127", ARGUMENT, () -> ship.append(127));
        due("firstError() of 60 signs", ship.firstError(), 60);
        // Box 10 is not there: the twelfth part is refused.
        due("load() of 60 signs", ship.load(), 11);
        counts(ship, "behind it", 4, 8, 8, 0, 0, 0, 10, 0, 0, 0, 0, 1);
        due("append() behind load()", ship.append('0'), 1);

        ShipLanterns open = typed(SIXTY.substring(0, 59) + ";");
        due("firstError() of 60 signs, the last of them wrong", open.firstError(), 59);
        thrown(open, "load() of 60 signs, the last of them wrong", ARGUMENT, open::load);
        due("clearBuffer() of 60 signs", open.clearBuffer(), 60);
        type(open, SIXTY.substring(0, 55) + ";12*1");
        due("firstError() of 60 signs with a box 12", open.firstError(), 57);

        ShipLanterns going = typed("0*1;0*1;0*1;0*1;0*1;0*1;0*1;0*1;0*1;0*1;0*1;0*1;0*1;0*1;0*1;");
        due("firstError() of 60 signs that want more", going.firstError(), 60);
        thrown(going, "load() of 60 signs that want more", ARGUMENT, going::load);
        due("clearBuffer()", going.clearBuffer(), 60);
        due("clearBuffer()", going.clearBuffer(), 0);
        due("append() behind it", going.append(126), 1);
        due("firstError() of ~", going.firstError(), 0);
    }

    /** A plan is complete with the last number of a part, and with nothing less. */
    private static void completePlans() {
        for (String plan : new String[] {"0>1,1", "0%60,60", "0*9", "0!1", "0#0,1", "0#1,30", "0*1;0!1;0#0,3;0>6,6"}) {
            for (int length = 1; length < plan.length(); length++) {
                String text = plan.substring(0, length);
                ShipLanterns ship = typed(text);
                due("firstError() of " + text, ship.firstError(), length);
                boolean complete = text.matches("0\\*1|0\\*1;0!1|0\\*1;0!1;0#0,3|0\\*1;0!1;0#0,3;0>6,6|0#1,3");
                complete |= text.matches("0%\\d+,\\d+");
                check.dueThrow("load() of " + text, complete ? null : ARGUMENT, ship::load);
            }
            check.dueThrow("load() of " + plan, null, typed(plan)::load);
        }
    }

    /** "Up to the first one for which that would throw an exception": the last that there may be, and the next. */
    private static void loadKeepsTheLimits() {
        ShipLanterns boxes = new ShipLanterns();
        for (int number = 1; number < 11; number++) {
            boxes.addBox(number - 1, 9, 9, false);
        }
        due("load() of the 12th box", load(boxes, "10>3,4"), 1);
        boxIs(boxes, 11, 10, 0, 1, 11, 0, 0, 0);
        due("load() of a 13th box", load(boxes, "11>3,4;0*1"), 0);
        due("load() at the last box", load(boxes, "11*1;11#1,3"), 2);
        counts(boxes, "behind them", 12, 1, 1, 1, 0, 0, 10, 0, 0, 0, 0, 6);

        ShipLanterns lanterns = planned("0*1;0*1;0*1;0*1;0*1;0*1;0*1;0*1;0*1;0*1;0*1;0*1;0*1;0*1;0*1");
        due("load() of the 16th lantern", load(lanterns, "0!9"), 1);
        lanternIs(lanterns, 15, 0, 9, 1, 0);
        due("load() of a 17th lantern", load(lanterns, "0*9;0#0,1"), 0);
        counts(lanterns, "behind them", 1, 16, 16, 0, 0, 0, 10, 0, 0, 0, 0, 3);

        ShipLanterns faults = planned("0#0,1;0#0,1;0#0,1;0#0,1;0#0,1;0#0,1;0#0,1");
        due("load() of the 8th fault", load(faults, "0#1,30"), 1);
        faultIs(faults, 7, 0, 1, 30, 1, 7);
        due("load() of a 9th fault", load(faults, "0#1,30;0*1"), 0);
        counts(faults, "behind them", 1, 0, 0, 8, 7, 0, 10, 0, 0, 0, 0, 3);

        // A box that an earlier part adds is there for the later ones, and not for those before it.
        due("load() of a box behind a new one", load(new ShipLanterns(), "0>9,9;1>9,9;2*1;2#0,1"), 4);
        due("load() of a box before it is there", load(new ShipLanterns(), "0>9,9;2*1;1>9,9"), 1);
        due("load() of a lantern before its box", load(new ShipLanterns(), "1*1;0>9,9"), 0);
        due("load() of a fault before its box", load(new ShipLanterns(), "1#0,1;0>9,9"), 0);
        due("load() of a box before its parent", load(new ShipLanterns(), "1>9,9;0>9,9"), 0);
    }

    /** "Undoable, as one call, also if the first part is refused"; "clears the buffer", which undo does not bring back. */
    private static void loadLeavesNoTrace() {
        ShipLanterns ship = new ShipLanterns();
        due("load() of eight parts", load(ship, "0>9,9;1*1;1*2;1*3;0*4;0#0,5;1#1,6;0!7"), 8);
        due("count(11)", ship.count(11), 1);
        due("load() of a refused part", load(ship, "2*1;0*1"), 0);
        due("count(11)", ship.count(11), 2);
        due("clearBuffer() behind a refused part", ship.clearBuffer(), 0);
        due("count(1)", ship.count(1), 5);
        due("undo() of the refused part", ship.undo(), 1);
        due("clearBuffer() behind undo()", ship.clearBuffer(), 0);
        due("count(1)", ship.count(1), 5);
        type(ship, "0*");
        thrown(ship, "load() of 0*", ARGUMENT, ship::load);
        due("count(11)", ship.count(11), 1);
        due("undo() of eight parts", ship.undo(), 0);
        counts(ship, "behind it", 1, 0, 0, 0, 0, 0, 10, 0, 0, 0, 0, 0);
        due("clearBuffer() behind undo()", ship.clearBuffer(), 2);
    }
}
