/** Each sentence of the promises that names a bound, by a test of its own; and the bound of use. */
public final class CallsEdgesTest extends Talk {
    private static final int[] FAR = {LOW, LOW + 1, -65536, -256, 256, 65536, HIGH - 1, HIGH};
    private static final String[] NO_LINES = {">", "a>", "f", "a5", "abcdeabcdeaba", "a>b", "~"};
    private static final String[] NO_EXAMPLES = {"", "a", ">", "a>", "abcdeabcdeab", "a>bbbbbb", "a>f", "f>a", "a>b>",
        "abcdeabcdeabc>a", ">>a"};

    public static void main(String[] args) {
        CallsEdgesTest test = new CallsEdgesTest();
        test.newObject();
        test.newBesideAnother();
        test.sayOutside();
        test.sayFull();
        test.wipeAll();
        test.faultOutside();
        test.exampleComes();
        test.exampleNo();
        test.exampleFull();
        test.forgetLast();
        test.poolComes();
        test.poolNo();
        test.poolFull();
        test.drainBehind();
        test.drainUnknown();
        test.plansNone();
        test.plansMost();
        test.costOfWhat();
        test.costNone();
        test.costOutside();
        test.pieceTells();
        test.pieceUnknown();
        test.pieceOutside();
        test.placeNone();
        test.placeNo();
        test.makesMany();
        test.makesNothing();
        test.makesNone();
        test.makesNo();
        test.acceptComes();
        test.acceptUnknown();
        test.acceptNo();
        test.acceptFull();
        test.agreeingUnknown();
        test.agreeingNo();
        test.askedNone();
        test.imageOutside();
        test.imageKeeps();
        test.restoreAsKept();
        test.restoreRefused();
        test.toldMany();
        test.toldOutside();
        test.calls512();
        test.check.end();
    }

    private void fillPool() {
        for (int line = x.told(2); line < 6; line++) {
            ask("a".repeat(line + 1));
        }
    }

    private void tellNoPlan() {
        tell("a>b");
        tell("a>c");
    }

    private void counts(int signs, int examples, int lines) {
        due("told(0)", x.told(0), signs);
        due("told(1)", x.told(1), examples);
        due("told(2)", x.told(2), lines);
    }

    // ---- 1 told

    private void newObject() {
        fresh("1 No EXAMPLE, no LINE.");
        counts(0, 0, 0);
        due("fault(0)", x.fault(0), 0);
        due("fault(1)", x.fault(1), NONE);
        due("example()", x.example(), NO);
        due("forget()", x.forget(), NO);
        due("drain(0)", x.drain(0), UNKNOWN);
        due("plans()", x.plans(), STATE);
        due("cost(-1)", x.cost(-1), STATE);
        due("piece(0, 0)", x.piece(0, 0), STATE);
        due("place(0)", x.place(0), 0);
        due("place(20)", x.place(20), 0);
        due("place(1)", x.place(1), NONE);
        due("place(104)", x.place(104), NONE);
        due("makes(-1)", x.makes(-1), STATE);
        due("accept(0)", x.accept(0), UNKNOWN);
        due("agreeing(0)", x.agreeing(0), UNKNOWN);
        due("asked()", x.asked(), STATE);
        due("restore(0)", x.restore(0), STATE);
        due("restore(1)", x.restore(1), STATE);
        due("told(10)", x.told(10), OUTSIDE);
        due("told(20)", x.told(20), OUTSIDE);
        due("told(30)", x.told(30), OUTSIDE);
        due("wipe()", x.wipe(), 0);
        due("an empty LINE", x.pool(), 1);
    }

    private void newBesideAnother() {
        fresh("1 No EXAMPLE, no LINE, though another object has them");
        tell("a>a");
        fillPool();
        x.image(0);
        x.image(1);
        write("abc");
        EditGuess full = x;
        newObject();
        x = full;
        counts(3, 1, 6);
        due("plans() of the other", x.plans(), 17);
        due("restore(0) of the other", x.restore(0), 1);
    }

    private void sayOutside() {
        fresh("2 A sign more: how many. OUTSIDE");
        due("say(33)", x.say(33), 1);
        due("say(126)", x.say(126), 2);
        for (int sign : new int[] {32, 127, 31, 128, 0, -1, 33 + 256, 97 - 256, 97 + 65536, -97}) {
            due("say(" + sign + ")", x.say(sign), OUTSIDE);
        }
        for (int sign : FAR) {
            due("say(" + sign + ")", x.say(sign), OUTSIDE);
        }
        due("say(97)", x.say(97), 3);
    }

    private void sayFull() {
        fresh("2 A sign more: how many. FULL");
        for (int many = 1; many <= 18; many++) {
            due("sign " + many, x.say('a'), many);
        }
        due("the 19th", x.say('a'), FULL);
        due("the 19th, no sign", x.say(127), OUTSIDE);
        due("the 19th, no sign", x.say(LOW), OUTSIDE);
        due("told(0)", x.told(0), 18);
        x.wipe();
        due("the first again", x.say('a'), 1);
    }

    private void wipeAll() {
        fresh("3 Signs go: how many there were.");
        due("of none", x.wipe(), 0);
        for (int many = 1; many <= 18; many++) {
            write("~".repeat(many));
            due("of " + many, x.wipe(), many);
            due("of none again", x.wipe(), 0);
            due("told(0)", x.told(0), 0);
        }
    }

    private void faultOutside() {
        fresh("4 THE FAULT as an EXAMPLE (0), as a LINE (1); NONE. OUTSIDE.");
        for (String signs : new String[] {"", "a", "a>b", "~"}) {
            write(signs);
            for (int as : FAR) {
                due("fault(" + as + ") of " + signs, x.fault(as), OUTSIDE);
            }
            due("fault(-1) of " + signs, x.fault(-1), OUTSIDE);
            due("fault(2) of " + signs, x.fault(2), OUTSIDE);
        }
        write("a>b");
        due("fault(0)", x.fault(0), NONE);
        due("fault(1)", x.fault(1), 1);
        write("a");
        due("fault(0)", x.fault(0), 1);
        due("fault(1)", x.fault(1), NONE);
    }

    private void exampleComes() {
        fresh("5 The EXAMPLE of the PAD (which is empty then) comes: how many there are.");
        String[] examples = {">a", "abcdeabcdeab>abcde", "a1-.>.-1a"};
        for (int many = 1; many <= 3; many++) {
            String example = examples[many - 1];
            due("example() of " + example, tell(example), many);
            due("told(0)", x.told(0), 0);
            due("fault(0)", x.fault(0), 0);
            due("wipe()", x.wipe(), 0);
            due("its LINE", x.told(9 + many), example.indexOf('>'));
            due("what became of it", x.told(19 + many), example.length() - example.indexOf('>') - 1);
        }
        counts(0, 3, 0);
    }

    private void exampleNo() {
        for (String signs : NO_EXAMPLES) {
            fresh("5 NO: there is a FAULT");
            write(signs);
            due("example() of " + signs, x.example(), NO);
            counts(signs.length(), 0, 0);
            due("plans()", x.plans(), STATE);
        }
    }

    private void exampleFull() {
        fresh("5 FULL");
        for (int many = 1; many <= 3; many++) {
            tell("a>a");
        }
        due("example() of a fourth", tell("ab>ab"), FULL);
        counts(5, 3, 0);
        for (String signs : NO_EXAMPLES) {
            write(signs);
            due("example() of " + signs + ", NO ahead of FULL", x.example(), NO);
            due("told(0)", x.told(0), signs.length());
        }
        x.forget();
        due("example() of another third", tell("ab>ab"), 3);
        due("told(12)", x.told(12), 2);
    }

    private void forgetLast() {
        fresh("6 The last EXAMPLE goes: how many there are. NO: there is none.");
        due("of none", x.forget(), NO);
        tell("a>a");
        tell("ab>ab");
        tell("abc>abc");
        write("~~");
        for (int left = 2; left >= 0; left--) {
            due("forget()", x.forget(), left);
            counts(2, left, 0);
            for (int i = 0; i < 3; i++) {
                due("told(1" + i + ")", x.told(10 + i), i < left ? i + 1 : OUTSIDE);
                due("told(2" + i + ")", x.told(20 + i), i < left ? i + 1 : OUTSIDE);
            }
        }
        due("of none again", x.forget(), NO);
        due("plans()", x.plans(), STATE);
        due("example() after it", tell("a>a"), 1);
    }

    private void poolComes() {
        fresh("7 The LINE of the PAD (which is empty then) comes to the POOL: how many there are.");
        String[] lines = {"", "abcde01234-.", "a", "", "-.", "43210edcba.-"};
        for (int many = 1; many <= 6; many++) {
            String line = lines[many - 1];
            due("pool() of " + line, ask(line), many);
            due("told(0)", x.told(0), 0);
            due("wipe()", x.wipe(), 0);
            due("its SIGNS", x.told(29 + many), line.length());
        }
        counts(0, 0, 6);
    }

    private void poolNo() {
        for (String signs : NO_LINES) {
            fresh("7 NO: there is a FAULT");
            write(signs);
            due("pool() of " + signs, x.pool(), NO);
            counts(signs.length(), 0, 0);
            due("told(30)", x.told(30), OUTSIDE);
        }
    }

    private void poolFull() {
        fresh("7 FULL");
        fillPool();
        due("pool() of a seventh", ask("ab"), FULL);
        counts(2, 0, 6);
        due("pool() of an empty seventh", ask(""), FULL);
        for (String signs : NO_LINES) {
            write(signs);
            due("pool() of " + signs + ", NO ahead of FULL", x.pool(), NO);
            due("told(0)", x.told(0), signs.length());
        }
        x.drain(0);
        due("pool() of another sixth", ask("ab"), 6);
        due("told(35)", x.told(35), 2);
    }

    private void drainBehind() {
        for (int gone = 0; gone < 6; gone++) {
            fresh("8 A LINE of the POOL goes: how many there are (those behind it are one less).");
            fillPool();
            due("drain(" + gone + ")", x.drain(gone), 5);
            for (int line = 0; line < 6; line++) {
                int due = line == 5 ? OUTSIDE : line < gone ? line + 1 : line + 2;
                due("told(3" + line + ") after drain(" + gone + ")", x.told(30 + line), due);
            }
            for (int left = 4; left >= 0; left--) {
                due("drain(" + left + ")", x.drain(left), left);
            }
            due("drain(0) of none", x.drain(0), UNKNOWN);
        }
    }

    private void drainUnknown() {
        fresh("8 UNKNOWN");
        for (int lines = 0; lines <= 6; lines++) {
            due("drain(-1) of " + lines, x.drain(-1), UNKNOWN);
            due("drain(" + lines + ") of " + lines, x.drain(lines), UNKNOWN);
            due("drain(6) of " + lines, x.drain(6), UNKNOWN);
            for (int line : FAR) {
                due("drain(" + line + ") of " + lines, x.drain(line), UNKNOWN);
            }
            due("told(2)", x.told(2), lines);
            ask("a");
        }
    }

    // ---- 2 plans

    private void plansNone() {
        fresh("9 How many PLANS FIT. STATE: there is no EXAMPLE.");
        due("plans() of none", x.plans(), STATE);
        fillPool();
        write("a>a");
        due("plans() of the PAD alone", x.plans(), STATE);
        x.example();
        due("plans() of one", x.plans(), 17);
        tell("b>a");
        due("plans() of two, a text", x.plans(), 1);
        tell("b>b");
        due("plans() of three, none FITS", x.plans(), 0);
        x.forget();
        due("plans() of two", x.plans(), 1);
        x.forget();
        due("plans() of one", x.plans(), 17);
        x.forget();
        due("plans() of none", x.plans(), STATE);
    }

    /** Of six runs of one letter the first is between 3 marks and 4, each other one between 4 and 4; or it is a text. */
    private void plansMost() {
        fresh("9 How many PLANS FIT, more than an int tells");
        tell("a1a1a1a1a1a1>aaaaa");
        long[] plans = new long[6];
        plans[0] = 1;
        for (int made = 1; made <= 5; made++) {
            plans[made] = (3 * 4 + 5 * 4 * 4) * plans[made - 1];
            for (int text = 1; text <= made; text++) {
                plans[made] += plans[made - text];
            }
        }
        due("plans()", x.plans(), plans[5]);
        due("plans()", x.plans(), 6960127536L);
        ask("a1a1a1a1a1a1");
        due("agreeing(0) on its own LINE", x.agreeing(0), plans[5]);
        due("asked()", x.asked(), 0);
    }

    private void costOfWhat() {
        fresh("10 The COST of BEST (i = -1), how many PIECES it has (-2), the COST of the i-th");
        tell("abc>.");
        due("cost(-2)", x.cost(-2), 1);
        due("cost(-1)", x.cost(-1), 4);
        due("cost(0)", x.cost(0), 4);
        tellAnew("ab>.ab-", "1>.1-");
        due("cost(-2)", x.cost(-2), 3);
        due("cost(-1)", x.cost(-1), 15);
        due("cost(0)", x.cost(0), 4);
        due("cost(1)", x.cost(1), 7);
        due("cost(2)", x.cost(2), 4);
    }

    private void costNone() {
        fresh("10 NONE: no PLAN FITS, there are not so many.");
        tell("a>a");
        due("cost(1) of one PIECE", x.cost(1), NONE);
        due("cost(HIGH)", x.cost(HIGH), NONE);
        due("cost(HIGH - 1)", x.cost(HIGH - 1), NONE);
        due("cost(256)", x.cost(256), NONE);
        tellAnew("a>aaaaa", "b>bbbbb");
        due("cost(4) of five PIECES", x.cost(4), 3);
        due("cost(5) of five PIECES", x.cost(5), NONE);
        due("cost(6) of five PIECES", x.cost(6), NONE);
        tellAnew();
        tellNoPlan();
        for (int i : new int[] {-2, -1, 0, 1, 5, HIGH}) {
            due("cost(" + i + "), no PLAN FITS", x.cost(i), NONE);
        }
    }

    private void costOutside() {
        fresh("10 OUTSIDE: less than -2; STATE, likewise; in this order.");
        int[] less = {-3, -4, -256, LOW + 1, LOW};
        for (int i : less) {
            due("cost(" + i + "), no EXAMPLE", x.cost(i), OUTSIDE);
        }
        for (int i : new int[] {-2, -1, 0, 1, HIGH}) {
            due("cost(" + i + "), no EXAMPLE", x.cost(i), STATE);
        }
        tell("a>a");
        for (int i : less) {
            due("cost(" + i + ")", x.cost(i), OUTSIDE);
        }
        tell("a>b");
        for (int i : less) {
            due("cost(" + i + "), no PLAN FITS", x.cost(i), OUTSIDE);
        }
    }

    private void pieceTells() {
        fresh("11 0 a CUT, 1 a TEXT (what = 0), the code of its first MARK, how many SIGNS (1), "
            + "the code of the second one, the code of the first SIGN (2)");
        for (char sign : SIGNS.toCharArray()) {
            tellAnew(">" + sign);
            due("what 0", x.piece(0, 0), 1);
            due("what 1", x.piece(0, 1), 1);
            due("what 2", x.piece(0, 2), sign);
        }
        tellAnew(">.-430");
        due("what 1 of five SIGNS", x.piece(0, 1), 5);
        due("what 2 of five SIGNS", x.piece(0, 2), '.');
        fresh("11 the code of a MARK, the least and the greatest");
        tellAnew("1a>1", "a->a", "-1>-");
        due("what 0", x.piece(0, 0), 0);
        due("what 1, LEFT 0", x.piece(0, 1), 0);
        due("what 2, LEFT 1", x.piece(0, 2), 1);
        tellAnew("--1-a.>.", ".a.1-a.a.>-");
        due("plans() of BEGIN 3, END 3 of class 2 alone", x.plans(), 1);
        due("what 1, BEGIN 3 of class 2", x.piece(0, 1), 146);
        due("what 2, END 3 of class 2", x.piece(0, 2), 246);
    }

    private void pieceUnknown() {
        fresh("11 STATE, likewise; UNKNOWN: no PLAN FITS, or there are not so many; OUTSIDE; in this order.");
        int[] not = {-1, -2, 3, 4, 5, LOW, LOW + 1, HIGH, HIGH - 1, 256};
        int[] whats = {0, 1, 2, -1, 3, LOW, HIGH};
        for (int what : whats) {
            due("piece(0, " + what + "), no EXAMPLE", x.piece(0, what), STATE);
            due("piece(-1, " + what + "), no EXAMPLE", x.piece(-1, what), STATE);
            due("piece(HIGH, " + what + "), no EXAMPLE", x.piece(HIGH, what), STATE);
        }
        tell("ab>.ab-");
        tell("1>.1-");
        for (int i : not) {
            for (int what : whats) {
                due("piece(" + i + ", " + what + ") of three", x.piece(i, what), UNKNOWN);
            }
        }
        tellAnew();
        tellNoPlan();
        for (int i : new int[] {0, 1, -1, HIGH, LOW}) {
            for (int what : whats) {
                due("piece(" + i + ", " + what + "), no PLAN FITS", x.piece(i, what), UNKNOWN);
            }
        }
    }

    private void pieceOutside() {
        fresh("11 OUTSIDE");
        tell("a>.a");
        tell("b>.b");
        for (int i = 0; i < 2; i++) {
            due("piece(" + i + ", -1)", x.piece(i, -1), OUTSIDE);
            due("piece(" + i + ", 3)", x.piece(i, 3), OUTSIDE);
            for (int what : FAR) {
                due("piece(" + i + ", " + what + ")", x.piece(i, what), OUTSIDE);
            }
        }
        due("piece(2, 3)", x.piece(2, 3), UNKNOWN);
    }

    private void placeNone() {
        fresh("12 The PLACE of the LINE of the PAD that a MARK tells; NONE: it tells none.");
        for (int code = 0; code <= 246; code++) {
            int due = code == 0 || code == 20 ? 0 : x.place(code) == OUTSIDE ? OUTSIDE : NONE;
            due("place(" + code + ") of an empty LINE", x.place(code), due);
        }
        write(SIGNS);
        due("LEFT 12 of twelve", x.place(12), 12);
        due("RIGHT 12 of twelve", x.place(32), 0);
        due("told(0)", x.told(0), 12);
    }

    private void placeNo() {
        for (String signs : NO_LINES) {
            fresh("12 NO: there is a FAULT; OUTSIDE: no such code; in this order.");
            write(signs);
            for (int code : new int[] {0, 20, 104, 13, -1, 33, 300, LOW, HIGH}) {
                due("place(" + code + ") of " + signs, x.place(code), NO);
            }
            x.wipe();
            for (int code : new int[] {13, -1, 33, 103, 107, 300, LOW, HIGH}) {
                due("place(" + code + ") of a LINE", x.place(code), OUTSIDE);
            }
        }
    }

    private void makesMany() {
        fresh("13 What BEST makes of the LINE of the PAD: how many SIGNS (i = -1), the code of the i-th");
        tell("a>aaaaa");
        tell("b>bbbbb");
        for (int many = 1; many <= 12; many++) {
            String line = "abcdeabcdeab".substring(0, many);
            write(line);
            due("makes(-1) of " + line, x.makes(-1), 5 * many);
            due("the first", x.makes(0), 'a');
            due("the last", x.makes(5 * many - 1), line.charAt(many - 1));
            due("behind the last", x.makes(5 * many), NONE);
            due("told(0)", x.told(0), many);
        }
        fresh("13 What BEST makes of the LINE of the PAD, each sign");
        tell(">a");
        made("", "a");
        for (char sign : SIGNS.toCharArray()) {
            tellAnew("1a>1", "a->a", "-1>-");
            made("" + sign, "" + sign);
            made(sign + "a", "" + sign);
            fresh("13 What BEST makes of the LINE of the PAD, each sign");
        }
    }

    private void makesNothing() {
        fresh("13 0: nothing");
        tell("a>a");
        for (String line : new String[] {"", "1", "-", "0123401234-."}) {
            write(line);
            due("makes(-1) of " + line, x.makes(-1), 0);
            due("makes(0) of " + line, x.makes(0), NONE);
        }
    }

    private void makesNone() {
        fresh("13 NONE: there are not so many, or no PLAN FITS.");
        tell("a>a");
        write("abc");
        due("makes(3) of three", x.makes(3), NONE);
        due("makes(2) of three", x.makes(2), 'c');
        due("makes(HIGH)", x.makes(HIGH), NONE);
        due("makes(256)", x.makes(256), NONE);
        due("makes(-2)", x.makes(-2), NONE);
        due("makes(LOW)", x.makes(LOW), NONE);
        tell("a>b");
        for (String line : new String[] {"", "a", SIGNS}) {
            write(line);
            for (int i : new int[] {-1, 0, 1, HIGH, LOW}) {
                due("makes(" + i + ") of " + line + ", no PLAN FITS", x.makes(i), NONE);
            }
        }
    }

    private void makesNo() {
        for (String signs : NO_LINES) {
            fresh("13 NO: there is a FAULT; STATE, likewise; in this order.");
            for (int i : new int[] {-1, 0, -2, LOW, HIGH}) {
                due("makes(" + i + ") of an empty LINE, no EXAMPLE", x.makes(i), STATE);
            }
            write(signs);
            for (int i : new int[] {-1, 0, -2, LOW, HIGH}) {
                due("makes(" + i + ") of " + signs + ", no EXAMPLE", x.makes(i), NO);
            }
            tell("a>a");
            write(signs);
            due("makes(-1) of " + signs, x.makes(-1), NO);
            tell("a>b");
            write(signs);
            due("makes(-1) of " + signs + ", no PLAN FITS", x.makes(-1), NO);
            due("makes(0) of " + signs + ", no PLAN FITS", x.makes(0), NO);
        }
    }

    // ---- 3 what is asked

    private void acceptComes() {
        fresh("14 The EXAMPLE comes that tells what BEST makes of a LINE of the POOL, which goes: how many EXAMPLES");
        tell("a>a");
        ask("1");
        ask("abcde");
        ask("1b");
        ask("12");
        write("~~");
        due("accept(1)", x.accept(1), 2);
        counts(2, 2, 3);
        due("its LINE", x.told(11), 5);
        due("what became of it", x.told(21), 5);
        due("the LINE ahead", x.told(30), 1);
        due("the LINE behind", x.told(31), 2);
        due("plans()", x.plans(), 9);
        due("accept(1)", x.accept(1), 3);
        counts(2, 3, 2);
        due("its LINE", x.told(12), 2);
        due("what became of it", x.told(22), 1);
        due("plans() of BEGIN and END, RIGHT 0", x.plans(), 2 * 3);
        due("forget()", x.forget(), 2);
        due("the LINE stays away", x.told(2), 2);
    }

    private void acceptUnknown() {
        fresh("14 UNKNOWN; STATE: there is no EXAMPLE; NO; FULL; in this order.");
        due("accept(0) of none, no EXAMPLE", x.accept(0), UNKNOWN);
        ask("1");
        int[] not = {-1, 1, 6, LOW, LOW + 1, HIGH - 1, HIGH, 256};
        for (int line : not) {
            due("accept(" + line + "), no EXAMPLE", x.accept(line), UNKNOWN);
        }
        due("accept(0), no EXAMPLE", x.accept(0), STATE);
        tell("a>a");
        due("accept(0) of nothing", x.accept(0), NO);
        for (int line : not) {
            due("accept(" + line + ")", x.accept(line), UNKNOWN);
        }
        tell("a>b");
        tell("a>c");
        due("accept(0), no PLAN FITS, three EXAMPLES", x.accept(0), NO);
        for (int line : not) {
            due("accept(" + line + "), no PLAN FITS, three EXAMPLES", x.accept(line), UNKNOWN);
        }
        counts(0, 3, 1);
    }

    private void acceptNo() {
        fresh("14 NO: no PLAN FITS, or it does not make 1 to 5 SIGNS");
        tell("a>a");
        for (int many = 0; many <= 12; many++) {
            ask("abcdeabcdeab".substring(0, many));
            boolean may = many >= 1 && many <= 5;
            due("accept(0) of " + many, x.accept(0), may ? 2 : NO);
            counts(0, may ? 2 : 1, may ? 0 : 1);
            if (may) {
                x.forget();
            } else {
                x.drain(0);
            }
        }
        ask("a");
        tell("a>b");
        due("accept(0), no PLAN FITS", x.accept(0), NO);
        counts(0, 2, 1);
    }

    private void acceptFull() {
        fresh("14 FULL; in this order");
        tell("a>a");
        tell("b>b");
        tell("c>c");
        ask("a");
        ask("");
        ask("abcdea");
        due("accept(0)", x.accept(0), FULL);
        due("accept(1) of nothing", x.accept(1), NO);
        due("accept(2) of six", x.accept(2), NO);
        due("accept(3)", x.accept(3), UNKNOWN);
        counts(0, 3, 3);
        x.forget();
        due("accept(0) of two EXAMPLES", x.accept(0), 3);
    }

    private void agreeingUnknown() {
        fresh("15 UNKNOWN; STATE, likewise; NO: as at accept(); in this order.");
        due("agreeing(0) of none, no EXAMPLE", x.agreeing(0), UNKNOWN);
        ask("1");
        int[] not = {-1, 1, 6, LOW, LOW + 1, HIGH - 1, HIGH, 256};
        for (int line : not) {
            due("agreeing(" + line + "), no EXAMPLE", x.agreeing(line), UNKNOWN);
        }
        due("agreeing(0), no EXAMPLE", x.agreeing(0), STATE);
        tell("a>a");
        due("agreeing(0) of nothing", x.agreeing(0), NO);
        for (int line : not) {
            due("agreeing(" + line + ")", x.agreeing(line), UNKNOWN);
        }
        tell("a>b");
        due("agreeing(0), no PLAN FITS", x.agreeing(0), NO);
        for (int line : not) {
            due("agreeing(" + line + "), no PLAN FITS", x.agreeing(line), UNKNOWN);
        }
    }

    private void agreeingNo() {
        fresh("15 NO: as at accept()");
        tell("a>a");
        for (int many = 0; many <= 12; many++) {
            ask("abcdeabcdeab".substring(0, many));
            long due = many == 0 || many > 5 ? NO : many == 1 ? 17 : 9;
            due("agreeing(0) of " + many, x.agreeing(0), due);
            x.drain(0);
        }
        ask("a");
        tell("a>a");
        tell("a>a");
        due("agreeing(0), three EXAMPLES", x.agreeing(0), 17);
        x.forget();
        tell("a>b");
        due("agreeing(0), no PLAN FITS", x.agreeing(0), NO);
    }

    private void askedNone() {
        fresh("16 ASKED; NONE: there is none. STATE, likewise.");
        due("asked() of none, no EXAMPLE", x.asked(), STATE);
        ask("1");
        due("asked(), no EXAMPLE", x.asked(), STATE);
        tell("a>a");
        due("asked() of nothing", x.asked(), NONE);
        x.drain(0);
        due("asked() of none", x.asked(), NONE);
        for (String line : new String[] {"", "1", "abcdea", "-", "abcdeabcdeab"}) {
            ask(line);
        }
        due("asked() of nothing and of too much", x.asked(), NONE);
        ask("a");
        due("asked() of the last of six", x.asked(), 5);
        tell("a>a");
        tell("a>a");
        due("asked(), three EXAMPLES", x.asked(), 5);
        x.forget();
        tell("a>b");
        due("asked(), no PLAN FITS", x.asked(), NONE);
    }

    private void imageOutside() {
        fresh("17 EXAMPLES, the POOL are kept in an IMAGE (0, 1): 1. OUTSIDE.");
        due("image(-1)", x.image(-1), OUTSIDE);
        due("image(2)", x.image(2), OUTSIDE);
        for (int n : FAR) {
            due("image(" + n + ")", x.image(n), OUTSIDE);
        }
        due("restore(0), none was kept", x.restore(0), STATE);
        due("restore(1), none was kept", x.restore(1), STATE);
        due("image(0)", x.image(0), 1);
        due("restore(1), the other was kept", x.restore(1), STATE);
        due("image(1)", x.image(1), 1);
        due("restore(1)", x.restore(1), 1);
    }

    private void imageKeeps() {
        fresh("17 EXAMPLES, the POOL are kept in an IMAGE, and a later one in its place");
        tell("abc>abc");
        x.image(0);
        tell("b>b");
        x.image(1);
        x.image(0);
        x.forget();
        x.forget();
        due("restore(0) of the later one", x.restore(0), 1);
        counts(0, 2, 0);
        x.forget();
        x.image(0);
        due("restore(1)", x.restore(1), 1);
        counts(0, 2, 0);
        due("told(11)", x.told(11), 1);
        due("restore(0)", x.restore(0), 1);
        counts(0, 1, 0);
        due("told(10)", x.told(10), 3);
    }

    /** Three examples and six lines in place of those that are there. */
    private void tellAll(String[] examples, String[] lines) {
        tellAnew(examples);
        while (x.told(2) > 0) {
            x.drain(0);
        }
        for (int line = 0; line < lines.length; line++) {
            due("pool() of " + lines[line], ask(lines[line]), line + 1);
        }
    }

    private void allIsAs(String[] examples, String[] lines, long plans, int asked, long... agreeing) {
        counts(4, examples.length, lines.length);
        for (int i = 0; i < examples.length; i++) {
            due("told(1" + i + ")", x.told(10 + i), examples[i].indexOf('>'));
            due("told(2" + i + ")", x.told(20 + i), examples[i].length() - examples[i].indexOf('>') - 1);
        }
        due("plans()", x.plans(), plans);
        due("asked()", x.asked(), asked);
        for (int line = 0; line < lines.length; line++) {
            due("told(3" + line + ")", x.told(30 + line), lines[line].length());
            due("agreeing(" + line + ")", x.agreeing(line), agreeing[line]);
        }
    }

    private void restoreAsKept() {
        fresh("18 They are as they were when they were kept: 1.");
        String[] ones = {"a>a", "ab>b", "abc>c"};
        String[] oneLines = {"", "d", "1", "a1b", "abcdeabcdeab", "ab"};
        String[] others = {"abcde01234-.>bcde0", "edcba43210.->dcba4", "a11111111--1>1111"};
        String[] otherLines = {"1", "ab", "abc", "abcde", "abcde0", "abcde01234-."};
        x.image(0);
        tellAll(ones, oneLines);
        write("~~~~");
        allIsAs(ones, oneLines, 3, 3, NO, 3, NO, 2, 3, 3);
        due("image(1) of all", x.image(1), 1);
        due("restore(0) of none", x.restore(0), 1);
        counts(4, 0, 0);
        due("plans()", x.plans(), STATE);
        due("asked()", x.asked(), STATE);
        due("told(10)", x.told(10), OUTSIDE);
        due("told(30)", x.told(30), OUTSIDE);
        tellAll(others, otherLines);
        write("~~~~");
        due("image(0) in its place", x.image(0), 1);
        due("plans() of the others", x.plans(), 0);
        due("restore(1) of all", x.restore(1), 1);
        allIsAs(ones, oneLines, 3, 3, NO, 3, NO, 2, 3, 3);
        due("restore(0) of the others", x.restore(0), 1);
        allIsAs(others, otherLines, 0, NONE, NO, NO, NO, NO, NO, NO);
        due("forget()", x.forget(), 2);
        due("plans() of two of the others", x.plans() > 0 ? 1 : 0, 1);
        due("restore(1) of all again", x.restore(1), 1);
        allIsAs(ones, oneLines, 3, 3, NO, 3, NO, 2, 3, 3);
    }

    private void restoreRefused() {
        fresh("18 OUTSIDE; STATE: they were not.");
        for (int round = 0; round < 2; round++) {
            due("restore(-1)", x.restore(-1), OUTSIDE);
            due("restore(2)", x.restore(2), OUTSIDE);
            for (int n : FAR) {
                due("restore(" + n + ")", x.restore(n), OUTSIDE);
            }
            due("restore(0)", x.restore(0), round == 0 ? STATE : 1);
            due("restore(1)", x.restore(1), round == 0 ? STATE : 1);
            x.image(0);
            x.image(1);
        }
    }

    private void toldMany() {
        fresh("19 0 signs, 1 EXAMPLES, 2 LINES; 10 and an EXAMPLE, 20 and one, 30 and a LINE of the POOL");
        counts(0, 0, 0);
        tell("abcdeabcdeab>abcde");
        tell(">a");
        tell("ab>abc");
        fillPool();
        write("~".repeat(18));
        counts(18, 3, 6);
        int[] dues = {12, 0, 2, 5, 1, 3};
        for (int i = 0; i < 6; i++) {
            due("told(" + (10 + i / 3 * 10 + i % 3) + ")", x.told(10 + i / 3 * 10 + i % 3), dues[i]);
            due("told(3" + i + ")", x.told(30 + i), i + 1);
        }
    }

    private void toldOutside() {
        for (int examples = 0; examples <= 3; examples++) {
            fresh("19 OUTSIDE");
            for (int i = 0; i < examples; i++) {
                tell("ab>a");
                ask("a");
                ask("a");
            }
            for (int code = -50; code <= 100; code++) {
                boolean may = code >= 0 && code <= 2 || code >= 10 && code < 10 + examples
                    || code >= 20 && code < 20 + examples || code >= 30 && code < 30 + 2 * examples;
                due("told(" + code + ") of " + examples + " is told or not", x.told(code) == OUTSIDE ? 0 : 1, may ? 1 : 0);
            }
        }
        for (int code : FAR) {
            due("told(" + code + ")", x.told(code), OUTSIDE);
        }
        for (int tens = 10; tens <= 30; tens += 10) {
            due("told(" + tens + " - 2^31)", x.told(tens + LOW), OUTSIDE);
            due("told(" + tens + " + 2^16)", x.told(tens + 65536), OUTSIDE);
            due("told(-" + tens + ")", x.told(-tens), OUTSIDE);
        }
    }

    // ---- the bound of use

    private void calls512() {
        fresh("An object is used for at most 512 calls after it has been made");
        for (int round = 0; round < 23; round++) {
            due("say() in round " + round, x.say('a'), 1);
            due("say() in round " + round, x.say('>'), 2);
            due("say() in round " + round, x.say('a'), 3);
            due("example() in round " + round, x.example(), 1);
            due("say() in round " + round, x.say('b'), 1);
            due("pool() in round " + round, x.pool(), 1);
            due("plans() in round " + round, x.plans(), 17);
            due("agreeing(0) in round " + round, x.agreeing(0), 16);
            due("asked() in round " + round, x.asked(), 0);
            due("accept(0) in round " + round, x.accept(0), 2);
            due("plans() in round " + round, x.plans(), 16);
            due("piece(0, 2) in round " + round, x.piece(0, 2), 202);
            due("image(0) in round " + round, x.image(0), 1);
            due("forget() in round " + round, x.forget(), 1);
            due("restore(0) in round " + round, x.restore(0), 1);
            due("cost(-1) in round " + round, x.cost(-1), 3);
            due("told(1) in round " + round, x.told(1), 2);
            due("say() in round " + round, x.say('e'), 1);
            due("makes(0) in round " + round, x.makes(0), 'e');
            due("wipe() in round " + round, x.wipe(), 1);
            due("forget() in round " + round, x.forget(), 1);
            due("forget() in round " + round, x.forget(), 0);
        }
        int calls = 23 * 22;
        for (int sign : new int[] {'a', '>', 'a'}) {
            calls++;
            due("call " + calls, x.say(sign), calls - 23 * 22);
        }
        due("call 510", x.example(), 1);
        due("call 511", x.plans(), 17);
        due("call 512", x.cost(-1), 3);
    }
}
