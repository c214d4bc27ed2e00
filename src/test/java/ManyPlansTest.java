import java.util.ArrayList;
import java.util.Arrays;
import java.util.HashMap;
import java.util.List;
import java.util.Map;
import java.util.Random;

/** Examples that more plans fit than Naive can write out, beside a second way to count and to compare them. */
public final class ManyPlansTest {
    private static final int RUNS = 400;
    private static final String[] ALPHABETS = {"a", "ab", "a1", "a-", "1", "12.", "a1-", "-."};

    private final Check check = new Check();
    private final Random random = new Random(20);
    private String alphabet;
    private int many;
    private int parted;

    public static void main(String[] args) {
        new ManyPlansTest().all();
    }

    /** What is still to be made of each line, from a place of its result on, and the pieces that may make it. */
    private static final class Ways {
        private final List<String> lines;
        private final List<String> results;
        private final List<Naive.Piece> pieces = new ArrayList<>();
        private final Map<String, Long> counts = new HashMap<>();
        private final Map<String, List<Naive.Piece>> bests = new HashMap<>();

        Ways(List<String> lines, List<String> results) {
            this.lines = lines;
            this.results = results;
            for (int first : Naive.CODES) {
                for (int second : Naive.CODES) {
                    add(new Naive.Piece(null, first, second));
                }
            }
            String result = results.get(0);
            List<String> texts = new ArrayList<>();
            for (int from = 0; from < result.length(); from++) {
                for (int to = from + 1; to <= result.length(); to++) {
                    if (!texts.contains(result.substring(from, to))) {
                        texts.add(result.substring(from, to));
                        add(new Naive.Piece(result.substring(from, to), 0, 0));
                    }
                }
            }
        }

        private void add(Naive.Piece piece) {
            for (int i = 0; i < lines.size(); i++) {
                String made = piece.of(lines.get(i));
                if (made == null || !results.get(i).contains(made)) {
                    return;
                }
            }
            pieces.add(piece);
        }

        private boolean whole(int[] done) {
            for (int i = 0; i < done.length; i++) {
                if (done[i] < results.get(i).length()) {
                    return false;
                }
            }
            return true;
        }

        /** null: the piece does not stand there. */
        private int[] behind(int[] done, Naive.Piece piece) {
            int[] next = done.clone();
            for (int i = 0; i < done.length; i++) {
                String made = piece.of(lines.get(i));
                if (!results.get(i).startsWith(made, done[i])) {
                    return null;
                }
                next[i] += made.length();
            }
            return next;
        }

        long count() {
            return count(new int[lines.size()]);
        }

        private long count(int[] done) {
            if (whole(done)) {
                return 1;
            }
            String key = Arrays.toString(done);
            if (!counts.containsKey(key)) {
                long sum = 0;
                for (Naive.Piece piece : pieces) {
                    int[] next = behind(done, piece);
                    sum += next == null ? 0 : count(next);
                }
                counts.put(key, sum);
            }
            return counts.get(key);
        }

        List<Naive.Piece> best() {
            return best(new int[lines.size()]);
        }

        /** null: none makes the rest. */
        private List<Naive.Piece> best(int[] done) {
            if (whole(done)) {
                return List.of();
            }
            String key = Arrays.toString(done);
            if (!bests.containsKey(key)) {
                List<Naive.Piece> best = null;
                for (Naive.Piece piece : pieces) {
                    int[] next = behind(done, piece);
                    List<Naive.Piece> rest = next == null ? null : best(next);
                    if (rest != null) {
                        List<Naive.Piece> plan = new ArrayList<>(List.of(piece));
                        plan.addAll(rest);
                        best = best == null || Naive.comparePlans(plan, best) < 0 ? plan : best;
                    }
                }
                bests.put(key, best);
            }
            return bests.get(key);
        }
    }

    private void all() {
        for (int run = 0; run < RUNS; run++) {
            alphabet = ALPHABETS[random.nextInt(ALPHABETS.length)];
            one("run " + run);
        }
        check.holds("runs in which more plans fit than Naive writes out: " + many, many > RUNS / 4);
        check.holds("lines on which not all agree: " + parted, parted > RUNS / 4);
        System.out.println(many + " of " + RUNS + " runs with more than " + Naive.MOST + " plans, " + parted + " lines parted");
        check.end();
    }

    private String anyLine() {
        StringBuilder out = new StringBuilder();
        int signs = 4 + random.nextInt(9);
        for (int i = 0; i < signs; i++) {
            out.append(alphabet.charAt(random.nextInt(alphabet.length())));
        }
        return out.toString();
    }

    private List<Naive.Piece> anyPlan() {
        List<Naive.Piece> plan = new ArrayList<>();
        for (int left = 1 + random.nextInt(3); left > 0; left--) {
            plan.add(random.nextInt(6) == 0 ? new Naive.Piece(alphabet.substring(0, 1), 0, 0)
                : new Naive.Piece(null, anyMark(), anyMark()));
        }
        return plan;
    }

    private int anyMark() {
        return Naive.CODES.get(random.nextInt(Naive.CODES.size()));
    }

    private void one(String run) {
        EditGuess x = new EditGuess();
        List<String> lines = new ArrayList<>();
        List<String> results = new ArrayList<>();
        int examples = 1 + random.nextInt(3);
        List<Naive.Piece> hidden = anyPlan();
        for (int tries = 0; tries < 3000 && lines.size() < examples; tries++) {
            String line = anyLine();
            String made = Naive.made(hidden, line);
            if (made.length() >= 3 && made.length() <= 5) {
                lines.add(line);
                results.add(made);
                write(x, line + ">" + made);
                check.due(run + ", example() of " + line + ">" + made, x.example(), lines.size());
            } else if (lines.isEmpty()) {
                hidden = anyPlan();
            }
        }
        if (!lines.isEmpty()) {
            look(run + " " + lines + results, x, lines, results);
        }
    }

    private static void write(EditGuess x, String signs) {
        x.wipe();
        for (int i = 0; i < signs.length(); i++) {
            x.say(signs.charAt(i));
        }
    }

    private void look(String run, EditGuess x, List<String> lines, List<String> results) {
        Ways ways = new Ways(lines, results);
        List<Naive.Piece> best = ways.best();
        check.due(run + ", plans()", x.plans(), ways.count());
        many += ways.count() > Naive.MOST ? 1 : 0;
        check.due(run + ", cost(-1)", x.cost(-1), Naive.costOf(best));
        check.due(run + ", cost(-2)", x.cost(-2), best.size());
        for (int i = 0; i < best.size(); i++) {
            Naive.Piece piece = best.get(i);
            boolean cut = piece.text() == null;
            check.due(run + ", cost(" + i + ")", x.cost(i), piece.cost());
            check.due(run + ", piece(" + i + ", 0)", x.piece(i, 0), cut ? 0 : 1);
            check.due(run + ", piece(" + i + ", 1)", x.piece(i, 1), cut ? piece.first() : piece.text().length());
            check.due(run + ", piece(" + i + ", 2)", x.piece(i, 2), cut ? piece.second() : piece.text().charAt(0));
        }
        lookAtPool(run, x, lines, results, best);
    }

    private void lookAtPool(String run, EditGuess x, List<String> lines, List<String> results, List<Naive.Piece> best) {
        int found = EditGuess.NONE;
        long fewest = Long.MAX_VALUE;
        for (int line = 0; line < 6; line++) {
            String asked = anyLine();
            String made = Naive.made(best, asked);
            long due = EditGuess.NO;
            if (made.length() >= 1 && made.length() <= 5) {
                due = agreeing(lines, results, asked, made);
                found = due < fewest ? line : found;
                fewest = Math.min(due, fewest);
                parted += due < x.plans() ? 1 : 0;
            }
            write(x, asked);
            check.due(run + ", makes(-1) of " + asked, x.makes(-1), made.length());
            check.due(run + ", pool() of " + asked, x.pool(), line + 1);
            check.due(run + ", agreeing(" + line + ") on " + asked, x.agreeing(line), due);
        }
        check.due(run + ", asked()", x.asked(), found);
    }

    /** Of plans that agree each piece makes a part of what is made of the line, as it does of the results. */
    private static long agreeing(List<String> lines, List<String> results, String line, String made) {
        List<String> allLines = new ArrayList<>(lines);
        List<String> allResults = new ArrayList<>(results);
        allLines.add(line);
        allResults.add(made);
        return new Ways(allLines, allResults).count();
    }
}
