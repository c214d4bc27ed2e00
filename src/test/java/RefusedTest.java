import java.util.ArrayList;
import java.util.List;
import java.util.Map;
import java.util.TreeMap;
import java.util.TreeSet;

/**
 * "They change nothing": in many states each call is made with arguments at and beyond every bound; if it is refused,
 * or only asks, the object answers all that can be asked, and all that an image holds, as one on which it was not made.
 */
public final class RefusedTest {
    private static final int[] NUMBERS = {Integer.MIN_VALUE, Integer.MIN_VALUE + 1, -65536, -4, -3, -2, -1, 0, 1, 2, 3, 5, 6,
        9, 10, 12, 13, 20, 22, 23, 30, 32, 33, 35, 36, 97, 103, 104, 126, 127, 147, 246, 247, 65536, Integer.MAX_VALUE};
    private static final int[] FEW = {Integer.MIN_VALUE, -1, 0, 1, 5, Integer.MAX_VALUE};
    private static final String FULL_POOL = " P:a P:1 P:abcdea P: P:b P:abcdeabcdeab";

    /** E tells an example, P a line of the pool, W writes signs on the pad, I keeps, A accepts, F forgets, Q asks. */
    private static final String[] STATES = {
        "", "W:ab", "W:a>b", "W:~", "W:~~~~~~~~~~~~~~~~~~", "W:abcdeabcdeab>abcde",
        "I0 P:a W:a>a", "P:a P:ab W:abcdeabcdeaba", FULL_POOL, FULL_POOL + " W:a", FULL_POOL + " W:a>",
        "E:a>a", "E:a>a P:b P:1 W:b", "E:a>a P:b Q W:b>b", "E:a>.a E:b>.b I1 P:a P:1 Q W:b", "E:a>.a" + FULL_POOL + " W:f",
        "E:a>b E:a>c P:a Q W:a", "E:a>b E:a>c" + FULL_POOL + " I0 W:~",
        "E:a>a E:b>b E:c>c", "E:a>a E:b>b E:c>c P:a P:1 P:abcdea Q W:d>d", "E:a>a E:b>b E:c>c W:d>", "E:a>a E:b>b E:c>b P:a W:d",
        "E:a>a I0 E:b>b I1 E:c>c" + FULL_POOL + " Q W:abcdeabcdeab>abcde", "E:a>a P:b P:c I0 A1 A0 P: Q W:a",
        "E:a>a E:b>c I0 F F Q P:a W:a", "E:1a>1 E:a->a E:-1>-" + FULL_POOL + " I1 Q W:~~~~~~~~~~~~~~~~~~"
    };

    private final Check check = new Check();
    private final Map<String, TreeSet<Long>> refusals = new TreeMap<>();
    private final List<Call> calls = new ArrayList<>();

    private interface Asking {
        long on(EditGuess x);
    }

    /** changes: whether the call may change something, if it is not refused. */
    private record Call(String name, String text, boolean changes, Asking asking) {
    }

    public static void main(String[] args) {
        RefusedTest test = new RefusedTest();
        test.listCalls();
        for (String state : STATES) {
            test.tryAll(state);
        }
        test.eachRefusal();
        test.check.end();
    }

    private void add(String name, boolean changes, Asking asking) {
        calls.add(new Call(name, name + "()", changes, asking));
    }

    private void listCalls() {
        add("wipe", true, EditGuess::wipe);
        add("example", true, EditGuess::example);
        add("forget", true, EditGuess::forget);
        add("pool", true, EditGuess::pool);
        add("plans", false, EditGuess::plans);
        add("asked", false, EditGuess::asked);
        for (int n : NUMBERS) {
            addOne("say", true, n, x -> x.say(n));
            addOne("fault", false, n, x -> x.fault(n));
            addOne("drain", true, n, x -> x.drain(n));
            addOne("cost", false, n, x -> x.cost(n));
            addOne("place", false, n, x -> x.place(n));
            addOne("makes", false, n, x -> x.makes(n));
            addOne("accept", true, n, x -> x.accept(n));
            addOne("agreeing", false, n, x -> x.agreeing(n));
            addOne("image", true, n, x -> x.image(n));
            addOne("restore", true, n, x -> x.restore(n));
            addOne("told", false, n, x -> x.told(n));
            for (int what : FEW) {
                calls.add(new Call("piece", "piece(" + n + ", " + what + ")", false, x -> x.piece(n, what)));
            }
        }
    }

    private void addOne(String name, boolean changes, int n, Asking asking) {
        calls.add(new Call(name, name + "(" + n + ")", changes, asking));
    }

    // ---- states

    private static EditGuess in(String state) {
        EditGuess x = new EditGuess();
        for (String step : state.trim().split(" ")) {
            if (!step.isEmpty()) {
                take(x, step.charAt(0), step.substring(1).replace(":", ""));
            }
        }
        return x;
    }

    private static void take(EditGuess x, char step, String rest) {
        switch (step) {
            case 'I': x.image(Integer.parseInt(rest)); break;
            case 'A': x.accept(Integer.parseInt(rest)); break;
            case 'F': x.forget(); break;
            case 'Q': x.asked(); break;
            default:
                x.wipe();
                for (char sign : rest.toCharArray()) {
                    x.say(sign);
                }
                if (step == 'E') {
                    x.example();
                } else if (step == 'P') {
                    x.pool();
                }
                break;
        }
    }

    /** All that can be asked; the last calls say what the pad and the images hold. */
    private static String look(EditGuess x) {
        StringBuilder out = new StringBuilder();
        for (int code = 0; code <= 20; code += 20) {
            for (int k = 0; k <= 12; k++) {
                out.append(x.place(code + k)).append(' ');
            }
        }
        for (int code = 102; code <= 244; code += code == 144 ? 58 : 2) {
            out.append(x.place(code)).append(' ');
        }
        out.append(x.makes(-1)).append(' ').append(x.makes(0)).append(' ').append(x.makes(1)).append(" faults ");
        out.append(x.fault(0)).append(' ').append(x.fault(1));
        lookAtPlans(x, out);
        for (int n = 0; n < 2; n++) {
            out.append(" restore ").append(x.restore(n));
            lookAtPlans(x, out);
            out.append(" example ").append(x.example()).append(" pool ").append(x.pool());
            lookAtPlans(x, out);
        }
        return out.toString();
    }

    private static void lookAtPlans(EditGuess x, StringBuilder out) {
        out.append(" told");
        int[] lines = {0, 1, 2, 10, 11, 12, 20, 21, 22, 30, 31, 32, 33, 34, 35};
        for (int what : lines) {
            out.append(' ').append(x.told(what));
        }
        out.append(" plans ").append(x.plans()).append(" asked ").append(x.asked());
        for (int i = -2; i < 3; i++) {
            out.append(' ').append(x.cost(i));
        }
        for (int i = 0; i < 2; i++) {
            out.append(' ').append(x.piece(i, 0)).append(' ').append(x.piece(i, 1)).append(' ').append(x.piece(i, 2));
        }
        for (int line = 0; line < 6; line++) {
            out.append(' ').append(x.agreeing(line));
        }
    }

    private void tryAll(String state) {
        String before = look(in(state));
        for (Call call : calls) {
            EditGuess x = in(state);
            long answer = call.asking.on(x);
            if (answer < 0) {
                refusals.computeIfAbsent(call.name, name -> new TreeSet<>()).add(answer);
            }
            if (answer < 0 || !call.changes) {
                check.due("in <" + state + "> " + call.text + " once more", call.asking.on(x), answer);
                String after = look(x);
                check.holds("in <" + state + "> " + call.text + " changed <" + before + "> to <" + after + ">",
                    before.equals(after));
            }
        }
    }

    /** Which answers below 0 each call gave in all of the states: those that its promise names, and no other. */
    private void eachRefusal() {
        String due = "{accept=[-5, -4, -3, -1], agreeing=[-5, -3, -1], asked=[-6, -3], cost=[-6, -3, -2], drain=[-1], "
            + "example=[-5, -4], fault=[-6, -2], forget=[-5], image=[-2], makes=[-6, -5, -3], piece=[-3, -2, -1], "
            + "place=[-6, -5, -2], plans=[-3], pool=[-5, -4], restore=[-3, -2], say=[-4, -2], told=[-2]}";
        check.holds("answers below 0 were " + refusals + ", due are " + due, refusals.toString().equals(due));
    }
}
