import java.lang.reflect.InvocationTargetException;
import java.lang.reflect.Method;
import java.lang.reflect.Modifier;
import java.util.ArrayList;
import java.util.Arrays;
import java.util.List;

/** Long runs of calls, chosen by a fixed rule, on ShipLanterns and on PlainShip: every answer must be the same. */
public final class RunTest {
    private static final int RUNS = 400;
    /** The last step may be a plan of some 70 calls, and an object is promised for 512 calls. */
    private static final int CALLS = 440;
    /** A little more than the buffer holds. */
    private static final int LONGEST_PLAN = 64;
    private static final String[] NAMES = {
        "addBox", "addBox", "addBox", "toggle", "toggle", "cross", "cross", "replace", "replace", "replace",
        "buyFuses", "hang", "hang", "hang", "takeDown", "fault", "fault", "fault", "mend", "burn", "append",
        "clearBuffer", "firstError", "load", "undo", "undo", "box", "terminal", "lantern", "faultAt", "count", "lamp",
        "locate", "ifFault", "ifFault", "ifFault", "ifToggled", "ifToggled", "neededRating", "lossShare", "plan", "plan"
    };

    private final Check check = new Check("RunTest");
    private final List<Method> calls = new ArrayList<>();
    private long chance = 20261119L;
    private ShipLanterns tested;
    private PlainShip plain;
    private int callsLeft;
    /** Strong fuses let much burn, weak ones let much blow. */
    private boolean weak;

    public static void main(String[] args) throws ReflectiveOperationException {
        new RunTest().runAll();
    }

    private void runAll() throws ReflectiveOperationException {
        for (Method method : ShipLanterns.class.getDeclaredMethods()) {
            if (Modifier.isPublic(method.getModifiers())) {
                calls.add(method);
            }
        }
        for (int run = 0; run < RUNS; run++) {
            weak = run % 3 != 0;
            tested = new ShipLanterns();
            plain = new PlainShip();
            callsLeft = CALLS;
            while (callsLeft > 0) {
                step();
                compare("digest");
            }
        }
        check.end();
    }

    /** A multiplier and an addend of Knuth's; the high bits are the good ones. */
    private int chance(int below) {
        chance = chance * 6364136223846793005L + 1442695040888963407L;
        return (int) ((chance >>> 33) % below);
    }

    /** Mostly in range, at times just outside, seldom far away. */
    private int around(int least, int most) {
        switch (chance(100)) {
            case 0: case 1: return least - 1;
            case 2: case 3: return most + 1;
            case 4: return chance(2) == 0 ? Integer.MIN_VALUE : Integer.MAX_VALUE;
            default: return least + chance(most - least + 1);
        }
    }

    private int someBox() {
        return around(0, plain.count(0) - 1);
    }

    private int someRating() {
        return weak && chance(10) > 0 ? around(1, 30) : around(20, 60);
    }

    private void step() throws ReflectiveOperationException {
        String name = NAMES[chance(NAMES.length)];
        if (name.equals("plan")) {
            readPlan();
            return;
        }
        compare(name, arguments(name));
    }

    private Object[] arguments(String name) {
        switch (name) {
            case "addBox": return new Object[] {someBox(), someRating(), someRating(), chance(2) == 0};
            case "toggle": case "cross": case "ifToggled": return new Object[] {someBox()};
            case "replace": return new Object[] {someBox(), around(0, 1), someRating()};
            case "buyFuses": return new Object[] {around(1, 20)};
            case "hang": return new Object[] {someBox(), around(1, 9), chance(2) == 0};
            case "takeDown": return new Object[] {around(0, Math.max(0, plain.count(1) - 1))};
            case "fault": return new Object[] {someBox(), around(0, 1), around(1, 30)};
            case "mend": return new Object[] {around(0, Math.max(0, plain.count(3) - 1))};
            case "burn": return new Object[] {around(1, 1000)};
            case "append": return new Object[] {around(33, 126)};
            case "box": return new Object[] {someBox(), around(0, 6)};
            case "terminal": return new Object[] {someBox(), around(0, 1), around(0, 5)};
            case "lantern": return new Object[] {around(0, plain.count(1)), around(0, 3)};
            case "faultAt": return new Object[] {around(0, plain.count(3)), around(0, 4)};
            case "count": return new Object[] {around(0, 11)};
            case "lamp": case "locate": return new Object[] {around(0, 1)};
            case "ifFault": return new Object[] {someBox(), around(0, 1), around(1, 30), around(0, 3)};
            case "neededRating": return new Object[] {someBox(), around(0, 1)};
            default: return new Object[0];
        }
    }

    private void readPlan() throws ReflectiveOperationException {
        if (chance(3) > 0) {
            compare("clearBuffer");
        }
        for (char sign : somePlan().toCharArray()) {
            compare("append", (int) sign);
        }
        compare("firstError");
        compare("load");
    }

    private String somePlan() {
        StringBuilder plan = new StringBuilder();
        int parts = 1 + chance(6);
        for (int i = 0; i < parts; i++) {
            plan.append(i > 0 ? ";" : "").append(chance(3) == 0 ? around(0, 11) : someBox());
            switch (chance(5)) {
                case 0: plan.append('>').append(someRating()).append(',').append(someRating()); break;
                case 1: plan.append('%').append(someRating()).append(',').append(someRating()); break;
                case 2: plan.append('*').append(around(1, 9)); break;
                case 3: plan.append('!').append(around(1, 9)); break;
                default: plan.append('#').append(around(0, 1)).append(',').append(around(1, 30)); break;
            }
        }
        if (chance(4) == 0) {
            plan.setCharAt(chance(plan.length()), ";,>%*!#0123456789a".charAt(chance(18)));
        }
        if (chance(8) == 0) {
            plan.append(';');
        }
        return plan.substring(0, Math.min(plan.length(), LONGEST_PLAN));
    }

    private void compare(String name, Object... arguments) throws ReflectiveOperationException {
        callsLeft--;
        for (Method method : calls) {
            if (method.getName().equals(name)) {
                Method twin = PlainShip.class.getMethod(name, method.getParameterTypes());
                check.dueText(name + Arrays.toString(arguments) + ", " + callsLeft + " calls before the end of a run,",
                        answer(method, tested, arguments), answer(twin, plain, arguments));
                return;
            }
        }
        check.say("there is no call " + name);
    }

    private static String answer(Method method, Object on, Object[] arguments) throws ReflectiveOperationException {
        try {
            return String.valueOf(method.invoke(on, arguments));
        } catch (InvocationTargetException e) {
            return "throws." + e.getCause().getClass().getSimpleName();
        }
    }
}
