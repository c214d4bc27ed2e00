/** What the tests by hand share: an object, the sentence that is tested, and signs that are said. */
abstract class Talk {
    static final int NONE = -6, UNKNOWN = -1, OUTSIDE = -2, STATE = -3, FULL = -4, NO = -5;
    static final int LOW = Integer.MIN_VALUE, HIGH = Integer.MAX_VALUE;
    static final String SIGNS = "abcde01234-.";

    final Check check = new Check();
    EditGuess x;
    private String sentence;

    /** A new object, on which what is said is tested. */
    void fresh(String words) {
        sentence = words;
        x = new EditGuess();
    }

    void due(String call, long got, long want) {
        check.due(sentence + " | " + call, got, want);
    }

    /** Puts signs on the pad in place of those that are there. */
    void write(String signs) {
        x.wipe();
        for (int i = 0; i < signs.length(); i++) {
            x.say(signs.charAt(i));
        }
    }

    int tell(String example) {
        write(example);
        return x.example();
    }

    /** New examples in place of those that are there. */
    void tellAnew(String... examples) {
        while (x.told(1) > 0) {
            x.forget();
        }
        for (int i = 0; i < examples.length; i++) {
            due("example() of " + examples[i], tell(examples[i]), i + 1);
        }
    }

    int ask(String line) {
        write(line);
        return x.pool();
    }

    void made(String line, String want) {
        write(line);
        due("makes(-1) of " + line, x.makes(-1), want.length());
        for (int i = 0; i < want.length(); i++) {
            due("makes(" + i + ") of " + line, x.makes(i), want.charAt(i));
        }
        due("makes behind the last of " + line, x.makes(want.length()), NONE);
    }

    /** A text: (-1, how many, the first sign). */
    void bestIs(int cost, int[]... pieces) {
        due("cost(-1)", x.cost(-1), cost);
        due("cost(-2)", x.cost(-2), pieces.length);
        for (int i = 0; i < pieces.length; i++) {
            boolean text = pieces[i][0] == -1;
            int at = text ? 1 : 0;
            due("piece(" + i + ", 0)", x.piece(i, 0), text ? 1 : 0);
            due("piece(" + i + ", 1)", x.piece(i, 1), pieces[i][at]);
            due("piece(" + i + ", 2)", x.piece(i, 2), pieces[i][at + 1]);
        }
        due("cost behind the last", x.cost(pieces.length), NONE);
        due("piece behind the last", x.piece(pieces.length, 0), UNKNOWN);
    }

    static int[] cut(int first, int second) {
        return new int[] {first, second};
    }

    static int[] text(int many, char first) {
        return new int[] {-1, many, first};
    }
}
