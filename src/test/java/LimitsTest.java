import java.lang.management.ManagementFactory;
import java.util.Arrays;
import java.util.HashMap;
import java.util.Map;
import java.util.Random;
import java.util.function.IntUnaryOperator;

/** The largest counts, any numbers at all in any state, and what the dearest calls use. */
public final class LimitsTest {
    private static final int CALLS = 512;

    private final Check check = new Check();

    public static void main(String[] args) {
        LimitsTest test = new LimitsTest();
        test.largestCounts();
        test.countsOfSeveralExamples();
        test.anyNumbers();
        test.dearestCalls();
        test.check.end();
    }

    private static void write(EditGuess x, String signs) {
        x.wipe();
        for (int i = 0; i < signs.length(); i++) {
            x.say(signs.charAt(i));
        }
    }

    private static int tell(EditGuess x, String example) {
        write(x, example);
        return x.example();
    }

    private static int ask(EditGuess x, String line) {
        write(x, line);
        return x.pool();
    }

    /**
     * Of a line of one letter each place is told by a LEFT and a RIGHT, the first by two BEGIN more, the last by two END;
     * so a piece of d letters is a text or one of these many cuts, and pieces that make n letters follow one another.
     */
    private static long plansOfOneLetter(int line, int result) {
        long[] plans = new long[result + 1];
        plans[0] = 1;
        for (int n = 1; n <= result; n++) {
            for (int d = 1; d <= n; d++) {
                plans[n] += (1 + cutsOfOneLetter(line, d)) * plans[n - d];
            }
        }
        return plans[result];
    }

    private static long cutsOfOneLetter(int line, int d) {
        long cuts = 0;
        for (int from = 0; from + d <= line; from++) {
            long begin = from == 0 ? 4 : 2;
            long end = from + d == line ? 4 : 2;
            cuts += begin * end;
        }
        return cuts;
    }

    private void largestCounts() {
        for (int line = 1; line <= 12; line++) {
            for (int result = 1; result <= 5; result++) {
                EditGuess x = new EditGuess();
                String example = "a".repeat(line) + ">" + "a".repeat(result);
                tell(x, example);
                long due = plansOfOneLetter(line, result);
                check.due("plans() of " + example, x.plans(), due);
                tell(x, example);
                tell(x, example);
                check.due("plans() of three " + example, x.plans(), due);
                ask(x, "a".repeat(line));
                check.due("agreeing(0) with three " + example, x.agreeing(0), due);
            }
        }
    }

    /**
     * Of lines of one letter and unlike lengths, LEFT 0 and two BEGIN tell the first place, RIGHT 0 and two END the last;
     * any other place is told from one side. What is still to be made of each line stands in left.
     */
    private static long plansOfUnlike(int[] lines, int shortest, int[] left, Map<String, Long> known) {
        String key = Arrays.toString(left);
        if (!known.containsKey(key)) {
            boolean whole = Arrays.stream(left).allMatch(many -> many == 0);
            long plans = whole ? 1 : 0;
            for (int d = 1; d <= 5; d++) {
                plans += behind(lines, shortest, left, known, length(d));
            }
            for (int first = 0; first < 4 * 11 * 11; first++) {
                int from = first / 44;
                int to = first / 4 % 11;
                boolean fromRight = first % 2 == 1;
                boolean toRight = first / 2 % 2 == 1;
                if (from <= shortest && to <= shortest) {
                    long times = (from == 0 ? 3 : 1) * (to == 0 ? 3 : 1);
                    plans += times * behind(lines, shortest, left, known,
                        line -> (toRight ? line - to : to) - (fromRight ? line - from : from));
                }
            }
            known.put(key, plans);
        }
        return known.get(key);
    }

    private static IntUnaryOperator length(int d) {
        return line -> d;
    }

    private static long behind(int[] lines, int shortest, int[] left, Map<String, Long> known, IntUnaryOperator piece) {
        int[] next = left.clone();
        for (int i = 0; i < lines.length; i++) {
            int length = piece.applyAsInt(lines[i]);
            next[i] -= length;
            if (length < 1 || next[i] < 0) {
                return 0;
            }
        }
        return plansOfUnlike(lines, shortest, next, known);
    }

    private void countsOfSeveralExamples() {
        EditGuess x = new EditGuess();
        tell(x, "aaaaaaaaaa>aaaaa");
        tell(x, "aaaaaaaaa>aaaaa");
        int[] two = {10, 9};
        check.due("plans() of two lines", x.plans(), plansOfUnlike(two, 9, new int[] {5, 5}, new HashMap<>()));
        tell(x, "aaaaaaaa>aaaaa");
        int[] three = {10, 9, 8};
        check.due("plans() of three lines", x.plans(), plansOfUnlike(three, 8, new int[] {5, 5, 5}, new HashMap<>()));
        check.holds("BEST makes of a fourth", ask(x, "aaaaaaa") == 1 && x.cost(-2) == 1 && x.cost(-1) == 5);
        int[] four = {10, 9, 8, 7};
        check.due("agreeing(0) of a fourth", x.agreeing(0), plansOfUnlike(four, 7, new int[] {5, 5, 5, 5}, new HashMap<>()));
    }

    private void anyNumbers() {
        int[] numbers = {Integer.MIN_VALUE, Integer.MIN_VALUE + 1, -1000, -3, -2, -1, 0, 1, 2, 3, 6, 10, 12, 20, 22, 30, 35,
            97, 100, 144, 200, 244, 1000, Integer.MAX_VALUE - 1, Integer.MAX_VALUE};
        Random random = new Random(7);
        for (int run = 0; run < 300; run++) {
            EditGuess x = new EditGuess();
            for (int calls = 0; calls < CALLS - 3; calls++) {
                int n = numbers[random.nextInt(numbers.length)];
                int m = numbers[random.nextInt(numbers.length)];
                anyCall(x, random.nextInt(26), n, m, random);
            }
            check.holds("no more than the limits", x.told(0) <= 18 && x.told(1) <= 3 && x.told(2) <= 6);
        }
    }

    private static void anyCall(EditGuess x, int call, int n, int m, Random random) {
        switch (call) {
            case 0: x.fault(n); break;
            case 1: x.example(); break;
            case 2: x.forget(); break;
            case 3: x.pool(); break;
            case 4: x.drain(n); break;
            case 5: x.plans(); break;
            case 6: x.cost(n); break;
            case 7: x.piece(n, m); break;
            case 8: x.place(n); break;
            case 9: x.makes(n); break;
            case 10: x.accept(n); break;
            case 11: x.agreeing(n); break;
            case 12: x.asked(); break;
            case 13: x.image(n); break;
            case 14: x.restore(n); break;
            case 15: x.told(n); break;
            case 16: x.say(n); break;
            case 17: x.wipe(); break;
            case 18: x.say('>'); break;
            default: x.say("a1-.b".charAt(random.nextInt(5))); break;
        }
    }

    /** What a run makes is counted, so no call makes anything; and each of these must come to an end. */
    private void dearestCalls() {
        com.sun.management.ThreadMXBean thread = (com.sun.management.ThreadMXBean) ManagementFactory.getThreadMXBean();
        EditGuess warm = new EditGuess();
        dearest(warm);
        EditGuess x = new EditGuess();
        long before = thread.getThreadAllocatedBytes(Thread.currentThread().getId());
        dearest(x);
        long made = thread.getThreadAllocatedBytes(Thread.currentThread().getId()) - before;
        check.holds("bytes made by 512 calls: " + made, made < 20000);
    }

    private static void dearest(EditGuess x) {
        for (int sign = 0; sign < 18; sign++) {
            x.say(sign == 12 ? '>' : 'a');
        }
        x.example();
        int calls = 19;
        for (int line = 0; line < 6; line++) {
            for (int sign = 0; sign < 12; sign++, calls++) {
                x.say('a');
            }
            x.pool();
            calls++;
        }
        x.accept(0);
        x.accept(0);
        x.image(0);
        calls += 3;
        while (calls + 3 <= CALLS) {
            x.restore(0);
            x.asked();
            x.piece(0, 1);
            calls += 3;
        }
    }
}
