import java.util.ArrayList;
import java.util.Comparator;
import java.util.HashMap;
import java.util.List;
import java.util.Map;
import java.util.regex.Matcher;
import java.util.regex.Pattern;

/**
 * The document told once more, as slowly and as plainly as can be: texts, lists, and all plans written out one by one.
 * Examples that more plans fit than MOST are not for it: then tooMany() is true and its answers mean nothing.
 */
final class Naive {
    static final int MOST = 30000;
    static final int NONE = -6, UNKNOWN = -1, OUTSIDE = -2, STATE = -3, FULL = -4, NO = -5;
    private static final String SIGN = "[a-e0-4.-]";
    private static final String[] KINDS = {"[a-e]+", "[0-4]+", "[.-]+"};
    static final List<Integer> CODES = codes();

    private String pad = "";
    private List<String[]> examples = new ArrayList<>();
    private List<String> pool = new ArrayList<>();
    private final List<List<String[]>> imageExamples = new ArrayList<>();
    private final List<List<String>> imagePools = new ArrayList<>();
    private List<List<Piece>> fits;
    private boolean tooMany;

    Naive() {
        for (int n = 0; n < 2; n++) {
            imageExamples.add(null);
            imagePools.add(null);
        }
    }

    /** A text, or (text is null) a cut. */
    record Piece(String text, int first, int second) {
        String of(String line) {
            if (text != null) {
                return text;
            }
            int from = placeOf(line, first);
            int to = placeOf(line, second);
            return from >= 0 && to >= 0 && from < to ? line.substring(from, to) : null;
        }

        int cost() {
            return text != null ? 2 * text.length() + 2 : markCost(first) + markCost(second) + 1;
        }
    }

    private static List<Integer> codes() {
        List<Integer> all = new ArrayList<>();
        for (int k = 0; k <= 12; k++) {
            all.add(k);
        }
        for (int k = 0; k <= 12; k++) {
            all.add(20 + k);
        }
        for (int side = 100; side <= 200; side += 100) {
            for (int kind = 0; kind < 3; kind++) {
                for (int n : new int[] {-3, -2, -1, 1, 2, 3}) {
                    all.add(side + 20 * kind + n + 3);
                }
            }
        }
        return all;
    }

    static int markCost(int code) {
        if (code < 100) {
            return 3;
        }
        int n = code % 20 - 3;
        return n == 1 || n == -1 ? 1 : 2;
    }

    static int placeOf(String line, int code) {
        if (code < 20) {
            return code <= line.length() ? code : NONE;
        }
        if (code < 100) {
            return line.length() - (code - 20) >= 0 ? line.length() - (code - 20) : NONE;
        }
        boolean end = code >= 200;
        int kind = code % 100 / 20;
        int n = code % 20 - 3;
        List<Integer> places = new ArrayList<>();
        Matcher matcher = Pattern.compile(KINDS[kind]).matcher(line);
        while (matcher.find()) {
            places.add(end ? matcher.end() : matcher.start());
        }
        int index = n > 0 ? n - 1 : places.size() + n;
        return index >= 0 && index < places.size() ? places.get(index) : NONE;
    }

    static String made(List<Piece> plan, String line) {
        StringBuilder out = new StringBuilder();
        for (Piece piece : plan) {
            String part = piece.of(line);
            if (part == null) {
                return "";
            }
            out.append(part);
        }
        return out.toString();
    }

    static int costOf(List<Piece> plan) {
        int sum = 0;
        for (Piece piece : plan) {
            sum += piece.cost();
        }
        return sum;
    }

    static int comparePieces(Piece a, Piece b) {
        if ((a.text == null) != (b.text == null)) {
            return a.text == null ? -1 : 1;
        }
        if (a.text == null) {
            return a.first != b.first ? Integer.compare(a.first, b.first) : Integer.compare(a.second, b.second);
        }
        return Integer.compare(a.text.length(), b.text.length());
    }

    static int comparePlans(List<Piece> a, List<Piece> b) {
        if (costOf(a) != costOf(b)) {
            return Integer.compare(costOf(a), costOf(b));
        }
        for (int i = 0; i < a.size() && i < b.size(); i++) {
            int order = comparePieces(a.get(i), b.get(i));
            if (order != 0) {
                return order;
            }
        }
        return Integer.compare(a.size(), b.size());
    }

    // ---- all plans, one by one

    private List<List<Piece>> fits() {
        if (fits == null) {
            fits = new ArrayList<>();
            tooMany = false;
            write(new ArrayList<>(), new String[examples.size()], candidates());
        }
        return fits;
    }

    private List<Piece> candidates() {
        List<Piece> all = new ArrayList<>();
        for (int first : CODES) {
            for (int second : CODES) {
                addIfUsable(all, new Piece(null, first, second));
            }
        }
        String result = examples.get(0)[1];
        Map<String, Boolean> seen = new HashMap<>();
        for (int from = 0; from < result.length(); from++) {
            for (int to = from + 1; to <= result.length(); to++) {
                if (seen.put(result.substring(from, to), true) == null) {
                    addIfUsable(all, new Piece(result.substring(from, to), 0, 0));
                }
            }
        }
        return all;
    }

    private void addIfUsable(List<Piece> all, Piece piece) {
        for (String[] example : examples) {
            String part = piece.of(example[0]);
            if (part == null || !example[1].contains(part)) {
                return;
            }
        }
        all.add(piece);
    }

    private void write(List<Piece> begun, String[] soFar, List<Piece> candidates) {
        if (fits.size() > MOST) {
            tooMany = true;
            return;
        }
        boolean whole = true;
        for (int i = 0; i < soFar.length; i++) {
            soFar[i] = soFar[i] == null ? "" : soFar[i];
            whole &= soFar[i].equals(examples.get(i)[1]);
        }
        if (whole) {
            fits.add(new ArrayList<>(begun));
            return;
        }
        for (Piece piece : candidates) {
            String[] next = new String[soFar.length];
            boolean fitting = true;
            for (int i = 0; i < soFar.length && fitting; i++) {
                next[i] = soFar[i] + piece.of(examples.get(i)[0]);
                fitting = examples.get(i)[1].startsWith(next[i]);
            }
            if (fitting) {
                begun.add(piece);
                write(begun, next, candidates);
                begun.remove(begun.size() - 1);
            }
        }
    }

    private List<Piece> best() {
        return fits().stream().min(Comparator.comparing((List<Piece> plan) -> plan, Naive::comparePlans)).orElse(null);
    }

    boolean tooMany() {
        if (!examples.isEmpty()) {
            fits();
        }
        return !examples.isEmpty() && tooMany;
    }

    private boolean makesResult(String line) {
        List<Piece> plan = best();
        return plan != null && made(plan, line).matches(".{1,5}");
    }

    private long agree(String line) {
        String due = made(best(), line);
        return fits().stream().filter(plan -> made(plan, line).equals(due)).count();
    }

    // ---- the face

    int say(int sign) {
        if (sign < 33 || sign > 126) {
            return OUTSIDE;
        }
        if (pad.length() == 18) {
            return FULL;
        }
        pad += (char) sign;
        return pad.length();
    }

    int wipe() {
        int gone = pad.length();
        pad = "";
        return gone;
    }

    int fault(int as) {
        if (as != 0 && as != 1) {
            return OUTSIDE;
        }
        String viable = as == 0 ? SIGN + "{0,12}(>" + SIGN + "{0,5})?" : SIGN + "{0,12}";
        for (int i = 0; i < pad.length(); i++) {
            if (!pad.substring(0, i + 1).matches(viable)) {
                return i;
            }
        }
        return as == 1 || pad.matches(".*>.+") ? NONE : pad.length();
    }

    int example() {
        if (fault(0) != NONE) {
            return NO;
        }
        if (examples.size() == 3) {
            return FULL;
        }
        examples.add(pad.split(">"));
        pad = "";
        fits = null;
        return examples.size();
    }

    int forget() {
        if (examples.isEmpty()) {
            return NO;
        }
        examples.remove(examples.size() - 1);
        fits = null;
        return examples.size();
    }

    int pool() {
        if (fault(1) != NONE) {
            return NO;
        }
        if (pool.size() == 6) {
            return FULL;
        }
        pool.add(pad);
        pad = "";
        return pool.size();
    }

    int drain(int line) {
        if (line < 0 || line >= pool.size()) {
            return UNKNOWN;
        }
        pool.remove(line);
        return pool.size();
    }

    long plans() {
        return examples.isEmpty() ? STATE : fits().size();
    }

    int cost(int i) {
        if (i < -2) {
            return OUTSIDE;
        }
        if (examples.isEmpty()) {
            return STATE;
        }
        List<Piece> plan = best();
        if (plan == null || i >= plan.size()) {
            return NONE;
        }
        return i == -2 ? plan.size() : i == -1 ? costOf(plan) : plan.get(i).cost();
    }

    int piece(int i, int what) {
        if (examples.isEmpty()) {
            return STATE;
        }
        List<Piece> plan = best();
        if (plan == null || i < 0 || i >= plan.size()) {
            return UNKNOWN;
        }
        Piece piece = plan.get(i);
        boolean cut = piece.text == null;
        switch (what) {
            case 0: return cut ? 0 : 1;
            case 1: return cut ? piece.first : piece.text.length();
            case 2: return cut ? piece.second : piece.text.charAt(0);
            default: return OUTSIDE;
        }
    }

    int place(int mark) {
        if (fault(1) != NONE) {
            return NO;
        }
        return CODES.contains(mark) ? placeOf(pad, mark) : OUTSIDE;
    }

    int makes(int i) {
        if (fault(1) != NONE) {
            return NO;
        }
        if (examples.isEmpty()) {
            return STATE;
        }
        if (best() == null) {
            return NONE;
        }
        String out = made(best(), pad);
        if (i == -1) {
            return out.length();
        }
        return i >= 0 && i < out.length() ? out.charAt(i) : NONE;
    }

    int accept(int line) {
        if (line < 0 || line >= pool.size()) {
            return UNKNOWN;
        }
        if (examples.isEmpty()) {
            return STATE;
        }
        if (!makesResult(pool.get(line))) {
            return NO;
        }
        if (examples.size() == 3) {
            return FULL;
        }
        String asked = pool.remove(line);
        examples.add(new String[] {asked, made(best(), asked)});
        fits = null;
        return examples.size();
    }

    long agreeing(int line) {
        if (line < 0 || line >= pool.size()) {
            return UNKNOWN;
        }
        if (examples.isEmpty()) {
            return STATE;
        }
        return makesResult(pool.get(line)) ? agree(pool.get(line)) : NO;
    }

    int asked() {
        if (examples.isEmpty()) {
            return STATE;
        }
        int found = NONE;
        for (int line = pool.size() - 1; line >= 0; line--) {
            if (makesResult(pool.get(line))
                    && (found == NONE || agree(pool.get(line)) <= agree(pool.get(found)))) {
                found = line;
            }
        }
        return found;
    }

    int image(int n) {
        if (n < 0 || n > 1) {
            return OUTSIDE;
        }
        imageExamples.set(n, new ArrayList<>(examples));
        imagePools.set(n, new ArrayList<>(pool));
        return 1;
    }

    int restore(int n) {
        if (n < 0 || n > 1) {
            return OUTSIDE;
        }
        if (imageExamples.get(n) == null) {
            return STATE;
        }
        examples = new ArrayList<>(imageExamples.get(n));
        pool = new ArrayList<>(imagePools.get(n));
        fits = null;
        return 1;
    }

    int told(int what) {
        if (what >= 0 && what <= 2) {
            return what == 0 ? pad.length() : what == 1 ? examples.size() : pool.size();
        }
        int tens = what / 10;
        int ones = what % 10;
        if ((tens == 1 || tens == 2) && ones < examples.size()) {
            return examples.get(ones)[tens - 1].length();
        }
        return tens == 3 && ones < pool.size() ? pool.get(ones).length() : OUTSIDE;
    }
}
