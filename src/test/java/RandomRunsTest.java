import java.util.ArrayList;
import java.util.List;
import java.util.Random;

/** Runs of calls, the same ones every time, on the program and on the naive telling of the document beside it. */
public final class RandomRunsTest {
    private static final int RUNS = 300;
    private static final int CALLS = 440;
    private static final int[] EDGES = {Integer.MIN_VALUE, -7, -3, -2, -1, 0, 1, 2, 3, 5, 6, 7, 12, 13, 19, 33, 103,
        107, 126, 127, 160, 240, 260, 1000, Integer.MAX_VALUE};

    private final Check check = new Check();
    private int run;
    private int calls;
    private int fitting;
    private int empty;
    private int agreeing;
    private Random random;
    private EditGuess mine;
    private Naive naive;
    private String alphabet;
    private List<Naive.Piece> hidden;

    public static void main(String[] args) {
        new RandomRunsTest().all();
    }

    private void all() {
        for (run = 0; run < RUNS && check.clean(); run++) {
            random = new Random(run);
            mine = new EditGuess();
            naive = new Naive();
            alphabet = anyAlphabet();
            hidden = anyPlan();
            for (calls = 0; calls < CALLS && check.clean();) {
                step();
            }
        }
        check.holds("runs in which plans fit", fitting > RUNS);
        check.holds("runs in which no plan fits", empty > RUNS / 10);
        check.holds("runs in which not all agree", agreeing > RUNS);
        System.out.println(fitting + " times plans fitted, " + empty + " times none, " + agreeing + " times some agreed");
        check.end();
    }

    private String anyAlphabet() {
        String[] all = {"abcde01234-.", "ab12-", "a1.", "a1", "ab", "a-", "abc-", "12.", "a", "ae04.-"};
        return all[random.nextInt(all.length)];
    }

    private List<Naive.Piece> anyPlan() {
        List<Naive.Piece> plan = new ArrayList<>();
        int pieces = 1 + random.nextInt(3);
        for (int i = 0; i < pieces; i++) {
            plan.add(random.nextInt(3) == 0 ? new Naive.Piece(anySigns(1 + random.nextInt(2)), 0, 0)
                : new Naive.Piece(null, anyMark(), anyMark()));
        }
        return plan;
    }

    private int anyMark() {
        return Naive.CODES.get(random.nextInt(Naive.CODES.size()));
    }

    private String anySigns(int many) {
        StringBuilder out = new StringBuilder();
        for (int i = 0; i < many; i++) {
            out.append(alphabet.charAt(random.nextInt(alphabet.length())));
        }
        return out.toString();
    }

    private String anyLine() {
        return anySigns(random.nextInt(13));
    }

    private int anyNumber(int near) {
        int kind = random.nextInt(4);
        return kind == 0 ? EDGES[random.nextInt(EDGES.length)] : random.nextInt(near + 1) - (kind == 1 ? 2 : 0);
    }

    private void same(String call, long got, long want) {
        calls++;
        check.due("run " + run + ", call " + calls + ": " + call, got, want);
    }

    private void step() {
        switch (random.nextInt(12)) {
            case 0: case 1: case 2: tellExample(); break;
            case 3: case 4: tellLine(); break;
            case 5: same("forget()", mine.forget(), naive.forget()); break;
            case 6: tellRubbish(); break;
            case 7: keep(); break;
            case 8: accept(); break;
            case 9: lookAtPad(); break;
            default: lookAtPlans(); break;
        }
        lookAtCounts();
    }

    private void wipe() {
        same("wipe()", mine.wipe(), naive.wipe());
    }

    private void say(String signs) {
        for (int i = 0; i < signs.length(); i++) {
            int sign = signs.charAt(i);
            same("say(" + sign + ")", mine.say(sign), naive.say(sign));
        }
    }

    private void lookAtFaults() {
        int as = anyNumber(1);
        same("fault(0)", mine.fault(0), naive.fault(0));
        same("fault(1)", mine.fault(1), naive.fault(1));
        same("fault(" + as + ")", mine.fault(as), naive.fault(as));
    }

    private void tellExample() {
        String line = anyLine();
        String result = Naive.made(hidden, line);
        for (int tries = 0; tries < 20 && !result.matches(".{1,5}"); tries++) {
            line = anyLine();
            result = Naive.made(hidden, line);
        }
        if (!result.matches(".{1,5}") || random.nextInt(8) == 0) {
            int from = random.nextInt(line.length() + 1);
            result = line.substring(from, Math.min(line.length(), from + 2)) + anySigns(1 + random.nextInt(2));
        }
        if (random.nextInt(4) != 0) {
            wipe();
        }
        say(line + ">" + result);
        lookAtFaults();
        example();
    }

    private void example() {
        same("example()", mine.example(), naive.example());
        dropIfTooMany();
    }

    private void dropIfTooMany() {
        if (naive.tooMany()) {
            same("forget()", mine.forget(), naive.forget());
        }
    }

    private void tellLine() {
        if (random.nextInt(4) != 0) {
            wipe();
        }
        say(anyLine());
        lookAtFaults();
        same("pool()", mine.pool(), naive.pool());
    }

    private void tellRubbish() {
        int many = random.nextInt(20);
        StringBuilder signs = new StringBuilder();
        for (int i = 0; i < many; i++) {
            String from = random.nextInt(9) == 0 ? ">~f5/" : alphabet;
            signs.append(from.charAt(random.nextInt(from.length())));
        }
        wipe();
        say(signs.toString());
        int sign = anyNumber(128);
        same("say(" + sign + ")", mine.say(sign), naive.say(sign));
        lookAtFaults();
        lookAtPad();
        if (random.nextBoolean()) {
            example();
        } else {
            same("pool()", mine.pool(), naive.pool());
        }
    }

    private void keep() {
        int n = random.nextInt(5) == 0 ? anyNumber(2) : random.nextInt(2);
        if (random.nextBoolean()) {
            same("image(" + n + ")", mine.image(n), naive.image(n));
        } else {
            same("restore(" + n + ")", mine.restore(n), naive.restore(n));
        }
    }

    private void accept() {
        int line = anyNumber(5);
        if (random.nextInt(3) == 0) {
            same("drain(" + line + ")", mine.drain(line), naive.drain(line));
        } else {
            same("accept(" + line + ")", mine.accept(line), naive.accept(line));
            dropIfTooMany();
        }
    }

    private void lookAtPad() {
        for (int i = -2; i < 4; i++) {
            same("makes(" + i + ")", mine.makes(i), naive.makes(i));
        }
        for (int i = 0; i < 4; i++) {
            int mark = random.nextBoolean() ? anyMark() : anyNumber(270);
            same("place(" + mark + ")", mine.place(mark), naive.place(mark));
        }
    }

    private void lookAtPlans() {
        same("plans()", mine.plans(), naive.plans());
        if (mine.plans() == 0) {
            empty++;
        }
        if (mine.plans() > 0) {
            fitting++;
        }
        for (int i = -3; i < 4; i++) {
            same("cost(" + i + ")", mine.cost(i), naive.cost(i));
        }
        for (int i = 0; i < 3; i++) {
            for (int what = 0; what < 3; what++) {
                same("piece(" + i + ", " + what + ")", mine.piece(i, what), naive.piece(i, what));
            }
        }
        int i = anyNumber(4);
        int what = anyNumber(3);
        same("piece(" + i + ", " + what + ")", mine.piece(i, what), naive.piece(i, what));
        same("cost(" + i + ")", mine.cost(i), naive.cost(i));
        same("asked()", mine.asked(), naive.asked());
        lookAtAgreeing();
    }

    private void lookAtAgreeing() {
        for (int line = -1; line <= naive.told(2); line++) {
            long due = naive.agreeing(line);
            same("agreeing(" + line + ")", mine.agreeing(line), due);
            if (due > 0 && due < naive.plans()) {
                agreeing++;
            }
        }
        same("asked()", mine.asked(), naive.asked());
    }

    private void lookAtCounts() {
        int what = anyNumber(36);
        same("told(" + what + ")", mine.told(what), naive.told(what));
        what = random.nextInt(3);
        same("told(" + what + ")", mine.told(what), naive.told(what));
    }
}
