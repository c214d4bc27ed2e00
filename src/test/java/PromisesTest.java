/** Each promise of the document by hand, in ordinary use; its edges one by one are in CallsEdgesTest. */
public final class PromisesTest extends Talk {
    public static void main(String[] args) {
        PromisesTest test = new PromisesTest();
        test.newObject();
        test.say();
        test.wipe();
        test.faultAsExample();
        test.faultAsLine();
        test.example();
        test.forget();
        test.pool();
        test.drain();
        test.plans();
        test.cost();
        test.bestOfEqualCost();
        test.piece();
        test.placesFromTheSides();
        test.placesOfRuns();
        test.placeRefused();
        test.makes();
        test.makesRefused();
        test.accept();
        test.acceptRefused();
        test.agreeing();
        test.asked();
        test.image();
        test.told();
        test.constants();
        test.check.end();
    }

    // ---- 1 told

    private void newObject() {
        fresh("1 new object");
        due("signs", x.told(0), 0);
        due("examples", x.told(1), 0);
        due("lines", x.told(2), 0);
        due("plans()", x.plans(), STATE);
        due("asked()", x.asked(), STATE);
        due("forget()", x.forget(), NO);
        due("drain(0)", x.drain(0), UNKNOWN);
        due("restore(0)", x.restore(0), STATE);
        due("restore(1)", x.restore(1), STATE);
    }

    private void say() {
        fresh("2 say");
        due("the least code", x.say(33), 1);
        due("the last code", x.say(126), 2);
        due("below", x.say(32), OUTSIDE);
        due("above", x.say(127), OUTSIDE);
        due("far below", x.say(LOW), OUTSIDE);
        due("far above", x.say(HIGH), OUTSIDE);
        due("256 and a letter", x.say(256 + 'a'), OUTSIDE);
        due("a sign no line has", x.say('z'), 3);
        for (int many = 4; many <= 18; many++) {
            due("sign " + many, x.say('a'), many);
        }
        due("the 19th", x.say('a'), FULL);
        due("the 19th, outside", x.say(32), OUTSIDE);
        due("signs", x.told(0), 18);
    }

    private void wipe() {
        fresh("3 wipe");
        due("nothing there", x.wipe(), 0);
        write("ab>c");
        due("four", x.wipe(), 4);
        due("again", x.wipe(), 0);
        due("signs", x.told(0), 0);
        due("the first once more", x.say('a'), 1);
        tell("ab>a");
        ask("a");
        x.wipe();
        due("examples stay", x.told(1), 1);
        due("lines stay", x.told(2), 1);
    }

    private void faults(int as, String signs, int want) {
        write(signs);
        due("fault(" + as + ") of " + signs, x.fault(as), want);
        due("signs after it", x.told(0), signs.length());
    }

    private void faultAsExample() {
        fresh("4 fault");
        faults(0, "", 0);
        faults(0, ">", 1);
        faults(0, "ab", 2);
        faults(0, "ab>", 3);
        faults(0, "ab>c", NONE);
        faults(0, ">c", NONE);
        faults(0, "ab>cde01", NONE);
        faults(0, "ab>cde012", 8);
        faults(0, "ab>c>", 4);
        faults(0, "ab>>c", 3);
        faults(0, "abf>c", 2);
        faults(0, "ab>f", 3);
        faults(0, "5>a", 0);
        faults(0, "a/b>a", 1);
        faults(0, "A>a", 0);
        faults(0, "ae04-.>ae04-", NONE);
        faults(0, "aaaaaaaaaaaa", 12);
        faults(0, "aaaaaaaaaaaaa", 12);
        faults(0, "aaaaaaaaaaaaa>b", 12);
        faults(0, "aaaaaaaaaaaa>", 13);
        faults(0, "aaaaaaaaaaaa>bbbbb", NONE);
        faults(0, "aaaaaaaaaaa>bbbbbb", 17);
        due("fault(2)", x.fault(2), OUTSIDE);
        due("fault(-1)", x.fault(-1), OUTSIDE);
        due("fault(LOW)", x.fault(LOW), OUTSIDE);
        due("fault(HIGH)", x.fault(HIGH), OUTSIDE);
    }

    private void faultAsLine() {
        fresh("4 fault");
        faults(1, "", NONE);
        faults(1, "a", NONE);
        faults(1, "abcde01234-.", NONE);
        faults(1, "abcde01234-.a", 12);
        faults(1, "abcde01234-.>", 12);
        faults(1, ">", 0);
        faults(1, "ab>c", 2);
        faults(1, "f", 0);
        faults(1, "a`", 1);
        faults(1, "0123456", 5);
        faults(1, "-.,", 2);
        faults(1, "-/", 1);
    }

    private void example() {
        fresh("5 example");
        due("empty", x.example(), NO);
        write("ab");
        due("a line", x.example(), NO);
        due("refused, signs stay", x.told(0), 2);
        write("ab-12>12");
        due("the first", x.example(), 1);
        due("the pad is empty", x.told(0), 0);
        due("its line", x.told(10), 5);
        due("its result", x.told(20), 2);
        due("the second", tell(">a"), 2);
        due("the same once more", tell(">a"), 3);
        due("a fault ahead of full", tell("ab"), NO);
        due("the fourth", tell("a>b"), FULL);
        due("refused, signs stay", x.told(0), 3);
        due("examples", x.told(1), 3);
    }

    private void forget() {
        fresh("6 forget");
        due("none", x.forget(), NO);
        tell("ab-12>12");
        tell("a>b");
        due("plans of both", x.plans(), 0);
        due("two", x.forget(), 1);
        due("plans of the first", x.plans(), 142);
        due("its line", x.told(10), 5);
        due("the other's line", x.told(11), OUTSIDE);
        due("one", x.forget(), 0);
        due("none again", x.forget(), NO);
        due("plans()", x.plans(), STATE);
        write("ab>a");
        tell("ab>a");
        write("abc");
        x.forget();
        due("signs stay", x.told(0), 3);
    }

    private void pool() {
        fresh("7 pool");
        due("a line of no signs", ask(""), 1);
        due("a fault", ask("a>b"), NO);
        due("refused, signs stay", x.told(0), 3);
        due("twelve signs", ask("abcde01234-."), 2);
        due("the pad is empty", x.told(0), 0);
        due("its signs", x.told(31), 12);
        due("thirteen signs", ask("abcde01234-.a"), NO);
        for (int many = 3; many <= 6; many++) {
            due("line " + many, ask("a"), many);
        }
        due("a fault ahead of full", ask("f"), NO);
        due("the seventh", ask("ab"), FULL);
        due("refused, signs stay", x.told(0), 2);
        due("lines", x.told(2), 6);
    }

    private void drain() {
        fresh("8 drain");
        due("none", x.drain(0), UNKNOWN);
        for (int signs = 1; signs <= 4; signs++) {
            ask("abcd".substring(0, signs));
        }
        due("behind the last", x.drain(4), UNKNOWN);
        due("below", x.drain(-1), UNKNOWN);
        due("far below", x.drain(LOW), UNKNOWN);
        due("far above", x.drain(HIGH), UNKNOWN);
        due("the second", x.drain(1), 3);
        due("the first stays", x.told(30), 1);
        due("the third is the second", x.told(31), 3);
        due("the fourth is the third", x.told(32), 4);
        due("no fourth", x.told(33), OUTSIDE);
        due("the last", x.drain(2), 2);
        due("the first", x.drain(0), 1);
        due("what stays", x.told(30), 3);
        due("what stays goes", x.drain(0), 0);
    }

    // ---- 2 plans

    private void plans() {
        fresh("9 plans");
        due("no example", x.plans(), STATE);
        tell(">a");
        due("a text alone", x.plans(), 1);
        x.forget();
        tell(">12340");
        due("all ways to part five signs", x.plans(), 16);
        x.forget();
        tell("a>a");
        due("4 marks on either side, and a text", x.plans(), 17);
        tell("b>b");
        due("the text fits no longer", x.plans(), 16);
        tell("1>1");
        due("letters' runs neither", x.plans(), 4);
        due("and again", x.plans(), 4);
        x.forget();
        tell("b>a");
        due("none", x.plans(), 0);
        x.forget();
        x.forget();
        tell("a>b");
        due("one line, two results", x.plans(), 0);
        x.forget();
        tell("a>a");
        due("the same twice", x.plans(), 17);
    }

    private void cost() {
        fresh("10 cost");
        due("no example", x.cost(-1), STATE);
        due("no example, less than -2", x.cost(-3), OUTSIDE);
        tell("ab-12>12");
        due("of BEST", x.cost(-1), 3);
        due("pieces", x.cost(-2), 1);
        due("of the first", x.cost(0), 3);
        due("of the second", x.cost(1), NONE);
        due("of one far off", x.cost(HIGH), NONE);
        due("-3", x.cost(-3), OUTSIDE);
        due("far below", x.cost(LOW), OUTSIDE);
        tell("a>b");
        due("no plan", x.cost(-1), NONE);
        due("no plan's pieces", x.cost(-2), NONE);
        due("no plan's first", x.cost(0), NONE);
        due("no plan, less than -2", x.cost(-3), OUTSIDE);
        fresh("10 cost of what");
        tell(">abcde");
        bestIs(12, text(5, 'a'));
        fresh("10 cost of a side's mark");
        tell("abcde>abcd");
        bestIs(5, cut(102, 4));
        fresh("10 cost of a second run's mark");
        tell("a1b-c>b");
        tell("b1a-e>a");
        tell("c-d1e>d");
        bestIs(5, cut(101, 201));
    }

    private void bestOfEqualCost() {
        fresh("10 BEST, marks by their codes");
        tell("a>a");
        bestIs(3, cut(102, 202));
        fresh("10 BEST, the first mark ahead of the second");
        tell("ab>b");
        bestIs(4, text(1, 'b'));
        tell("cd>d");
        bestIs(5, cut(1, 202));
        fresh("10 BEST, a cut ahead of a text");
        tell("abcd>bc");
        bestIs(6, text(2, 'b'));
        tell("dbce>bc");
        bestIs(6, text(2, 'b'));
        fresh("10 BEST, a cut that costs as little as a text");
        tell("-a1>a1");
        bestIs(3, cut(102, 222));
        fresh("10 BEST, a mark of one class alone");
        tell("a-b-c-d>b");
        tell("c1d-e>c");
        tell("a.e1d.c>e");
        bestIs(5, cut(100, 200));
        fresh("10 BEST, from the left alone");
        tell("1a>1");
        tell("a->a");
        tell("-1>-");
        bestIs(7, cut(0, 1));
        fresh("10 BEST, from the right alone");
        tell("a1>1");
        tell("1a>a");
        tell("aa->-");
        bestIs(7, cut(21, 20));
        fresh("10 BEST, from the right and from a run");
        tell("aab>b");
        tell("aaac>c");
        tell("d>d");
        bestIs(5, cut(21, 202));
        fresh("10 BEST, pieces one by one");
        tell("1a>a1");
        bestIs(6, cut(102, 202), cut(122, 102));
        fresh("10 BEST, equal cost, the cut first");
        tell("abc>ab");
        bestIs(5, cut(102, 2));
        fresh("10 BEST, texts, the shorter first");
        tell("11cd>.1cd");
        bestIs(9, text(1, '.'), cut(1, 202));
    }

    private void piece() {
        fresh("11 piece");
        due("no example", x.piece(0, 0), STATE);
        due("no example, nothing right", x.piece(-1, 9), STATE);
        tell("ab>a.");
        tell("cd>c.");
        bestIs(9, cut(102, 1), text(1, '.'));
        due("OUTSIDE 3", x.piece(0, 3), OUTSIDE);
        due("OUTSIDE -1", x.piece(1, -1), OUTSIDE);
        due("OUTSIDE low", x.piece(0, LOW), OUTSIDE);
        due("OUTSIDE high", x.piece(1, HIGH), OUTSIDE);
        due("no third", x.piece(2, 0), UNKNOWN);
        due("no third, outside", x.piece(2, 3), UNKNOWN);
        due("-1", x.piece(-1, 0), UNKNOWN);
        due("low", x.piece(LOW, 0), UNKNOWN);
        due("high", x.piece(HIGH, 9), UNKNOWN);
        tell("a>b");
        due("no plan", x.piece(0, 0), UNKNOWN);
        due("no plan, outside", x.piece(0, 3), UNKNOWN);
    }

    private void places(String line, int[][] dues) {
        write(line);
        for (int[] due : dues) {
            due("place(" + due[0] + ") of " + line, x.place(due[0]), due[1]);
        }
    }

    private void placesFromTheSides() {
        fresh("12 place");
        places("", new int[][] {{0, 0}, {1, NONE}, {12, NONE}, {20, 0}, {21, NONE}, {32, NONE}, {104, NONE},
            {204, NONE}, {102, NONE}});
        places("abc", new int[][] {{0, 0}, {1, 1}, {3, 3}, {4, NONE}, {20, 3}, {21, 2}, {23, 0}, {24, NONE}});
        places("abcde01234-.", new int[][] {{12, 12}, {32, 0}, {20, 12}, {31, 1}, {11, 11}});
    }

    private void placesOfRuns() {
        fresh("12 place");
        places("a1b2c-d.", new int[][] {{104, 0}, {105, 2}, {106, 4}, {102, 6}, {101, 4}, {100, 2}, {204, 1}, {205, 3},
            {206, 5}, {202, 7}, {201, 5}, {200, 3}});
        places("a1b2c-d.", new int[][] {{124, 1}, {125, 3}, {126, NONE}, {122, 3}, {121, 1}, {120, NONE}, {224, 2},
            {225, 4}, {226, NONE}, {222, 4}, {221, 2}, {220, NONE}});
        places("a1b2c-d.", new int[][] {{144, 5}, {145, 7}, {146, NONE}, {142, 7}, {141, 5}, {140, NONE}, {244, 6},
            {245, 8}, {246, NONE}, {242, 8}, {241, 6}, {240, NONE}});
        places("-.-", new int[][] {{144, 0}, {142, 0}, {244, 3}, {242, 3}, {145, NONE}, {141, NONE}});
        places("edcba43210", new int[][] {{104, 0}, {204, 5}, {124, 5}, {224, 10}});
    }

    private void placeRefused() {
        fresh("12 place");
        write("ab");
        for (int code : new int[] {LOW, -1, 13, 19, 33, 34, 99, 103, 107, 119, 123, 127, 139, 143, 147, 160, 164, 180, 199,
            203, 207, 219, 223, 243, 247, 260, 264, 300, 304, HIGH}) {
            due("place(" + code + ")", x.place(code), OUTSIDE);
        }
        write("ab>c");
        due("a fault", x.place(0), NO);
        due("a fault, no such code", x.place(13), NO);
        write("abcde01234-.a");
        due("thirteen signs", x.place(0), NO);
    }

    private void makes() {
        fresh("13 makes");
        tell("ab-12>12");
        made("c-d-340", "340");
        made("12", "12");
        made("012340123401", "012340123401");
        made("ab", "");
        made("", "");
        x.forget();
        tell("ab-12>12-ab");
        bestIs(9, cut(122, 222), cut(142, 122), cut(102, 142));
        made("aaaaaa-11111", "11111-aaaaaa");
        made("11111-aaaaaa", "");
        made("ab12", "");
        x.forget();
        tell("a>.");
        made("", ".");
        due("signs stay", x.told(0), 0);
        x.forget();
        tell("aaaa>aaaaa");
        made("bcdeabcdeabc", "bcdeabcdeabca");
        fresh("13 makes, one mark of two tells no place");
        tell("a1>a");
        bestIs(3, cut(102, 122));
        made("bc1", "bc");
        made("-1", "");
        made("--1", "");
        made("a", "");
        made("ab1c1", "c");
        made("1ab1", "ab");
        fresh("13 makes, more signs than a line has");
        tell("a>aaaaa");
        tell("b>bbbbb");
        due("five cuts", x.cost(-2), 5);
        made("abcdeabcdeab", "abcdeabcdeab".repeat(5));
        fresh("13 makes, a cut that goes back");
        tell("-1>-1");
        made("1-", "");
        made("-1", "-1");
        made("1-1", "-1");
    }

    private void makesRefused() {
        fresh("13 makes");
        write("a>b");
        due("a fault, no example", x.makes(-1), NO);
        write("a");
        due("no example", x.makes(-1), STATE);
        tell("ab-12>12");
        write("12");
        due("-2", x.makes(-2), NONE);
        due("low", x.makes(LOW), NONE);
        due("high", x.makes(HIGH), NONE);
        tell("a>b");
        write("12");
        due("no plan", x.makes(-1), NONE);
        due("no plan's first", x.makes(0), NONE);
        write("1f");
        due("a fault, no plan", x.makes(-1), NO);
        due("signs stay", x.told(0), 2);
    }

    // ---- 3 what is asked

    private void accept() {
        fresh("14 accept");
        tell("ab-12>12");
        ask("4.e3");
        ask("aa-31");
        ask("31a4");
        write("abc");
        due("the second", x.accept(1), 2);
        due("signs stay", x.told(0), 3);
        due("it goes", x.told(2), 2);
        due("the third is the second", x.told(31), 4);
        due("its line", x.told(11), 5);
        due("what BEST makes", x.told(21), 2);
        due("plans that are left", x.plans(), 120);
        due("the first", x.accept(0), 3);
        due("its result", x.told(22), 1);
        due("plans that are left", x.plans(), 4);
        bestIs(3, cut(122, 222));
        due("full", x.accept(0), FULL);
        due("refused, the line stays", x.told(2), 1);
    }

    private void acceptRefused() {
        fresh("14 accept");
        due("no line, no example", x.accept(0), UNKNOWN);
        ask("ab");
        due("no example", x.accept(0), STATE);
        due("below", x.accept(-1), UNKNOWN);
        due("behind", x.accept(1), UNKNOWN);
        due("low", x.accept(LOW), UNKNOWN);
        due("high", x.accept(HIGH), UNKNOWN);
        tell("ab-12>12");
        ask("123401");
        ask("12340");
        due("BEST makes nothing", x.accept(0), NO);
        due("BEST makes six", x.accept(1), NO);
        due("refused, lines stay", x.told(2), 3);
        due("refused, examples stay", x.told(1), 1);
        due("BEST makes five", x.accept(2), 2);
        tell("a>b");
        due("no plan, and full", x.accept(0), NO);
        due("examples", x.told(1), 3);
        fresh("14 accept at three examples");
        ask("123401");
        tell("ab-12>12");
        tell("ab-12>12");
        tell("ab-12>12");
        due("six ahead of full", x.accept(0), NO);
    }

    private void agreeing() {
        fresh("15 agreeing");
        due("no line, no example", x.agreeing(0), UNKNOWN);
        ask("4.e3");
        due("no example", x.agreeing(0), STATE);
        due("below", x.agreeing(-1), UNKNOWN);
        due("low", x.agreeing(LOW), UNKNOWN);
        due("high", x.agreeing(HIGH), UNKNOWN);
        tell("ab-12>12");
        ask("aa-31");
        ask("abc");
        ask("123401");
        ask("ab-12");
        due("of the first", x.agreeing(0), 4);
        due("of the second", x.agreeing(1), 120);
        due("BEST makes nothing", x.agreeing(2), NO);
        due("BEST makes six", x.agreeing(3), NO);
        due("all on the example's own line", x.agreeing(4), 142);
        due("the first again", x.agreeing(0), 4);
        due("plans stay", x.plans(), 142);
        x.drain(0);
        due("the second is the first", x.agreeing(0), 120);
        tell("4.e3>3");
        due("fewer plans, fewer agree", x.agreeing(0), 4);
        x.forget();
        due("as before", x.agreeing(0), 120);
        tell("a>b");
        due("no plan", x.agreeing(0), NO);
        tell("a>b");
        due("behind the last, no plan", x.agreeing(4), UNKNOWN);
    }

    private void asked() {
        fresh("16 asked");
        ask("aa-31");
        due("no example", x.asked(), STATE);
        x.drain(0);
        due("no example, no line", x.asked(), STATE);
        tell("ab-12>12");
        due("no line", x.asked(), NONE);
        ask("abc");
        due("BEST makes nothing", x.asked(), NONE);
        ask("123401");
        due("BEST makes six", x.asked(), NONE);
        ask("aa-31");
        due("the only one", x.asked(), 2);
        ask("4.e3");
        due("the fewest agree", x.asked(), 3);
        ask("4.e3");
        due("of as few the first", x.asked(), 3);
        ask("ab-12");
        due("more agree on the last", x.asked(), 3);
        x.drain(3);
        due("the one behind it", x.asked(), 3);
        tell("a>b");
        due("no plan", x.asked(), NONE);
    }

    private void image() {
        fresh("17 and 18 image and restore");
        due("image(2)", x.image(2), OUTSIDE);
        due("image(-1)", x.image(-1), OUTSIDE);
        due("image(low)", x.image(LOW), OUTSIDE);
        due("restore(2)", x.restore(2), OUTSIDE);
        due("restore(-1)", x.restore(-1), OUTSIDE);
        due("restore(high)", x.restore(HIGH), OUTSIDE);
        due("of nothing", x.image(1), 1);
        tell("ab-12>12");
        ask("4.e3");
        ask("abc");
        due("restore(0), not kept", x.restore(0), STATE);
        due("image(0)", x.image(0), 1);
        tell("4.e3>3");
        x.drain(0);
        due("plans that are left", x.plans(), 4);
        write("de");
        due("restore(0)", x.restore(0), 1);
        due("signs stay", x.told(0), 2);
        due("examples", x.told(1), 1);
        due("lines", x.told(2), 2);
        due("the first line", x.told(30), 4);
        due("plans()", x.plans(), 142);
        due("agreeing(0)", x.agreeing(0), 4);
        due("asked()", x.asked(), 0);
        bestIs(3, cut(122, 222));
        due("restore(1)", x.restore(1), 1);
        due("no example", x.plans(), STATE);
        due("no line", x.told(2), 0);
        due("restore(0) once more", x.restore(0), 1);
        x.forget();
        tell(">a");
        due("an image is not changed by what comes", x.restore(0), 1);
        due("plans()", x.plans(), 142);
        x.forget();
        due("another in its place", x.image(0), 1);
        tell("a>a");
        x.restore(0);
        due("no example", x.told(1), 0);
        due("lines", x.told(2), 2);
    }

    private void told() {
        fresh("19 told");
        for (int what : new int[] {LOW, -1, 3, 9, 10, 13, 20, 23, 30, 36, 40, 100, HIGH}) {
            due("told(" + what + ")", x.told(what), OUTSIDE);
        }
        tell(">abc");
        tell("abcde01234-.>ab");
        tell("a>b");
        for (int i = 0; i < 6; i++) {
            ask("abcde0".substring(0, i));
        }
        write("ab>");
        int[][] dues = {{0, 3}, {1, 3}, {2, 6}, {10, 0}, {11, 12}, {12, 1}, {13, OUTSIDE}, {19, OUTSIDE}, {20, 3}, {21, 2},
            {22, 1}, {23, OUTSIDE}, {29, OUTSIDE}, {30, 0}, {31, 1}, {35, 5}, {36, OUTSIDE}, {3, OUTSIDE}, {9, OUTSIDE},
            {-1, OUTSIDE}, {LOW, OUTSIDE}, {HIGH, OUTSIDE}};
        for (int[] due : dues) {
            due("told(" + due[0] + ")", x.told(due[0]), due[1]);
        }
    }

    private void constants() {
        fresh("the constants");
        due("NONE", EditGuess.NONE, NONE);
        due("UNKNOWN", EditGuess.UNKNOWN, UNKNOWN);
        due("OUTSIDE", EditGuess.OUTSIDE, OUTSIDE);
        due("STATE", EditGuess.STATE, STATE);
        due("FULL", EditGuess.FULL, FULL);
        due("NO", EditGuess.NO, NO);
    }
}
