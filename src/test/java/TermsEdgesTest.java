/** Each sentence of 'Terms' that names a bound, by a test of its own. */
public final class TermsEdgesTest extends Talk {
    private static final char[] OF_KIND = {'a', '1', '-'};
    private static final char[] OF_NEXT_KIND = {'1', '-', 'a'};

    public static void main(String[] args) {
        TermsEdgesTest test = new TermsEdgesTest();
        test.signsOfALine();
        test.signsOfAResult();
        test.signsManyInALine();
        test.tooManyInALine();
        test.signsManyInAResult();
        test.classes();
        test.runsAsManyAsCanBe();
        test.placesOfALine();
        test.examplesThree();
        test.padEighteen();
        test.codesOfThePad();
        test.faultFirstSign();
        test.faultMoreMustCome();
        test.poolSix();
        test.leftAndRight();
        test.beginAndEnd();
        test.longRuns();
        test.codesOfMarks();
        test.cutBetweenTwoPlaces();
        test.cutBetweenEqualPlaces();
        test.cutOfUntoldPlaces();
        test.textOfSigns();
        test.planOfPieces();
        test.planEachMakesSomething();
        test.fitsEachExample();
        test.plansThatAreOne();
        test.costOfSides();
        test.costOfTheLastSides();
        test.costOfRuns();
        test.costOfTexts();
        test.costOfPlans();
        test.bestCostsLeast();
        test.bestCutAheadOfText();
        test.bestByFirstMark();
        test.bestBySecondMark();
        test.bestByFirstPiece();
        test.bestShorterText();
        test.agreeing();
        test.agreeingBesideAllThatMayBe();
        test.askedOneToFive();
        test.askedFewest();
        test.check.end();
    }

    private static int kindOf(char sign) {
        return sign >= 'a' ? 0 : sign >= '0' ? 1 : 2;
    }

    // ---- 1

    private void signsOfALine() {
        for (char code = 33; code <= 126; code++) {
            boolean sign = SIGNS.indexOf(code) >= 0;
            fresh("SIGNS of a LINE are letters a to e, figures 0 to 4, and - .");
            write("" + code);
            due("fault(1) of " + code, x.fault(1), sign ? NONE : 0);
            due("place(0) of " + code, x.place(0), sign ? 0 : NO);
            due("pool() of " + code, x.pool(), sign ? 1 : NO);
            write(code + ">a");
            due("fault(0) of " + code + ">a", x.fault(0), sign ? NONE : code == '>' ? 1 : 0);
            due("example() of " + code + ">a", x.example(), sign ? 1 : NO);
        }
    }

    private void signsOfAResult() {
        for (char code = 33; code <= 126; code++) {
            boolean sign = SIGNS.indexOf(code) >= 0;
            fresh("what became of it: 1 to 5 such SIGNS");
            write("a>" + code);
            due("fault(0) of a>" + code, x.fault(0), sign ? NONE : 2);
            due("example() of a>" + code, x.example(), sign ? 1 : NO);
        }
    }

    private void signsManyInALine() {
        for (int many = 0; many <= 12; many++) {
            fresh("a LINE has 0 to 12 of them");
            String line = "a".repeat(many);
            write(line);
            due("fault(1) of " + line, x.fault(1), NONE);
            due("place(20) of " + line, x.place(20), many);
            due("pool() of " + line, x.pool(), 1);
            due("told(30) of " + line, x.told(30), many);
            write(line + ">b");
            due("fault(0) of " + line + ">b", x.fault(0), NONE);
            due("example() of " + line + ">b", x.example(), 1);
            due("told(10) of " + line + ">b", x.told(10), many);
            write(line);
            due("makes(-1) of " + line, x.makes(-1), 1);
        }
    }

    private void tooManyInALine() {
        for (int many = 13; many <= 18; many++) {
            fresh("a LINE has 0 to 12 of them");
            tell("a>a");
            String line = "a".repeat(many);
            write(line);
            due("fault(1) of " + line, x.fault(1), 12);
            due("fault(0) of " + line, x.fault(0), 12);
            due("place(0) of " + line, x.place(0), NO);
            due("makes(-1) of " + line, x.makes(-1), NO);
            due("pool() of " + line, x.pool(), NO);
            if (many <= 16) {
                write(line + ">b");
                due("fault(0) of " + line + ">b", x.fault(0), 12);
                due("example() of " + line + ">b", x.example(), NO);
            }
        }
    }

    private void signsManyInAResult() {
        for (int line = 0; line <= 12; line++) {
            for (int many = 0; many <= 17 - line; many++) {
                fresh("what became of it: 1 to 5 such SIGNS");
                write("a".repeat(line) + ">" + "a".repeat(many));
                boolean fits = many >= 1 && many <= 5;
                String signs = line + " signs, > and " + many;
                due("fault(0) of " + signs, x.fault(0), fits ? NONE : many == 0 ? line + 1 : line + 6);
                due("example() of " + signs, x.example(), fits ? 1 : NO);
                due("told(20) of " + signs, x.told(20), fits ? many : OUTSIDE);
            }
        }
    }

    private void classes() {
        for (char one : SIGNS.toCharArray()) {
            for (char two : SIGNS.toCharArray()) {
                fresh("CLASS (0 letters, 1 figures, 2 - and .)");
                write("" + one + two);
                boolean alike = kindOf(one) == kindOf(two);
                int first = 20 * kindOf(one);
                int second = 20 * kindOf(two);
                due("first BEGIN in " + one + two, x.place(104 + first), 0);
                due("first END in " + one + two, x.place(204 + first), alike ? 2 : 1);
                due("last BEGIN in " + one + two, x.place(102 + second), alike ? 0 : 1);
                due("last END in " + one + two, x.place(202 + second), 2);
                due("BEGIN of a second RUN in " + one + two, x.place(105 + first), NONE);
                int third = 60 - first - second;
                due("BEGIN of another CLASS in " + one + two, x.place(104 + (alike ? (first + 20) % 60 : third)), NONE);
            }
        }
    }

    private void runsAsManyAsCanBe() {
        fresh("RUN: SIGNS beside each other that are of one CLASS, as many as can be");
        String[] lines = {"abcdeabcdeab", "012340123401", "-.-.-.-.-.-.", "edcbaaaaabcd", "............"};
        for (String line : lines) {
            write(line);
            int kind = 20 * kindOf(line.charAt(0));
            due("first BEGIN in " + line, x.place(104 + kind), 0);
            due("last BEGIN in " + line, x.place(102 + kind), 0);
            due("first END in " + line, x.place(204 + kind), 12);
            due("last END in " + line, x.place(202 + kind), 12);
            due("second BEGIN in " + line, x.place(105 + kind), NONE);
            due("second END from the right in " + line, x.place(201 + kind), NONE);
        }
    }

    private void placesOfALine() {
        for (int many = 0; many <= 12; many++) {
            fresh("A PLACE of a LINE is 0 (ahead of the first SIGN) to as many as it has");
            write("a".repeat(many));
            due("the first of " + many, x.place(0), 0);
            due("the last of " + many, x.place(many), many);
            due("the last of " + many + ", from the right", x.place(20), many);
            due("the first of " + many + ", from the right", x.place(20 + many), 0);
            if (many < 12) {
                due("behind the last of " + many, x.place(many + 1), NONE);
                due("ahead of the first of " + many, x.place(21 + many), NONE);
            }
        }
    }

    private void examplesThree() {
        fresh("EXAMPLES (3 at most)");
        for (int many = 1; many <= 3; many++) {
            due("example " + many, tell("a>a"), many);
        }
        due("the fourth", tell("a>a"), FULL);
        ask("a");
        due("the fourth, accepted", x.accept(0), FULL);
        due("examples", x.told(1), 3);
        x.forget();
        due("the third again, accepted", x.accept(0), 3);
        x.forget();
        due("the third again", tell("a>a"), 3);
        due("the fourth again", tell("a>a"), FULL);
    }

    private void padEighteen() {
        fresh("A PAD (18 signs at most");
        for (int round = 0; round < 2; round++) {
            for (int many = 1; many <= 18; many++) {
                due("sign " + many, x.say('~'), many);
            }
            due("the 19th", x.say('~'), FULL);
            due("the 20th", x.say('a'), FULL);
            due("signs", x.told(0), 18);
            due("wipe()", x.wipe(), 18);
        }
        due("an example of 18", tell("abcdeabcdeab>abcde"), 1);
        due("signs then", x.told(0), 0);
        due("the first of the next", x.say('a'), 1);
    }

    private void codesOfThePad() {
        for (int code = -300; code <= 600; code++) {
            boolean may = code >= 33 && code <= 126;
            if (code % 100 == 0) {
                fresh("codes 33 to 126");
            }
            due("say(" + code + ")", x.say(code), may ? 1 : OUTSIDE);
            x.wipe();
        }
        for (int code : new int[] {LOW, LOW + 97, HIGH, HIGH - 97, 65536 + 97, -65536 + 97, (1 << 24) + 97, ~97}) {
            due("say(" + code + ")", x.say(code), OUTSIDE);
        }
    }

    private void faults(String signs, int asExample, int asLine) {
        write(signs);
        due("fault(0) of " + signs, x.fault(0), asExample);
        due("fault(1) of " + signs, x.fault(1), asLine);
    }

    private void faultFirstSign() {
        fresh("THE FAULT: the place (from 0 on) of the first sign that can not stand there");
        faults("~", 0, 0);
        faults("f>>", 0, 0);
        faults("af", 1, 1);
        faults("affff>6666>", 1, 1);
        faults(">", 1, 0);
        faults(">>", 1, 0);
        faults(">a>", 2, 0);
        faults("a>a~>~", 3, 1);
        faults("a>f", 2, 1);
        faults("abcdeabcdeab~", 12, 12);
        faults("abcdeabcdeaba>a", 12, 12);
        faults("abcdeabcdea~", 11, 11);
        faults("abcdeabcdeab>>", 13, 12);
        faults("abcdeabcdeab>aaaa~", 17, 12);
        faults(">aaaaaa", 6, 0);
        faults(">aaaaa>", 6, 0);
        faults(">aaaa~a", 5, 0);
        faults("~".repeat(18), 0, 0);
    }

    private void faultMoreMustCome() {
        fresh("or the number of signs, if more must come");
        faults("", 0, NONE);
        faults("a", 1, NONE);
        faults("abcdeabcdeab", 12, NONE);
        faults(">", 1, 0);
        faults("a>", 2, 1);
        faults("abcdeabcdeab>", 13, 12);
        faults(">a", NONE, 0);
        faults("abcdeabcdeab>a", NONE, 12);
        faults("abcdeabcdeab>abcde", NONE, 12);
    }

    private void poolSix() {
        fresh("POOL: up to 6 LINES that may be asked");
        for (int many = 1; many <= 6; many++) {
            due("line " + many, ask("a".repeat(many)), many);
        }
        due("the seventh", ask("a"), FULL);
        due("an empty seventh", ask(""), FULL);
        due("lines", x.told(2), 6);
        x.drain(5);
        due("the sixth again", ask("aaaa"), 6);
        due("its signs", x.told(35), 4);
        due("the seventh again", ask("a"), FULL);
    }

    // ---- 2

    private void leftAndRight() {
        for (int many = 0; many <= 12; many++) {
            fresh("LEFT k (0 to 12): k, if it has so many SIGNS; RIGHT k: as many as it has, less k, if it has so many");
            write(SIGNS.substring(0, many));
            for (int k = 0; k <= 12; k++) {
                due("LEFT " + k + " of " + many, x.place(k), k <= many ? k : NONE);
                due("RIGHT " + k + " of " + many, x.place(20 + k), k <= many ? many - k : NONE);
            }
        }
    }

    /** As many runs of a class as are asked, a sign each, with a sign of another class between any two of them. */
    private static String runs(int kind, int many, int ahead, int behind) {
        StringBuilder line = new StringBuilder();
        for (int i = 0; i < ahead; i++) {
            line.append(OF_NEXT_KIND[kind]);
        }
        for (int run = 0; run < many; run++) {
            line.append(run == 0 ? "" : "" + OF_NEXT_KIND[kind]).append(OF_KIND[kind]);
        }
        for (int i = 0; i < behind; i++) {
            line.append(OF_NEXT_KIND[kind]);
        }
        return line.toString();
    }

    private void beginAndEnd() {
        for (int kind = 0; kind < 3; kind++) {
            for (int many = 0; many <= 6; many++) {
                for (int sides = 0; sides < 4; sides++) {
                    String line = runs(kind, many, sides % 2, sides / 2);
                    if (line.length() <= 12) {
                        placesOfRuns(line, kind, many, sides % 2);
                    }
                }
            }
        }
    }

    private void placesOfRuns(String line, int kind, int many, int ahead) {
        fresh("BEGIN of a CLASS, n (1 to 3, or -1 to -3): where the n-th RUN begins, if there are so many; END: where it ends");
        write(line);
        for (int n = -3; n <= 3; n++) {
            int begin = 100 + 20 * kind + n + 3;
            int run = n > 0 ? n - 1 : many + n;
            boolean told = n != 0 && run >= 0 && run < many;
            int place = ahead + 2 * run;
            due("BEGIN " + n + " of class " + kind + " in " + line, x.place(begin), n == 0 ? OUTSIDE : told ? place : NONE);
            due("END " + n + " of class " + kind + " in " + line, x.place(begin + 100),
                n == 0 ? OUTSIDE : told ? place + 1 : NONE);
        }
    }

    private void longRuns() {
        fresh("where the n-th RUN of that CLASS from the left (-n-th from the right) begins; END: where it ends");
        write("ab01.-cde2-d");
        int[][] dues = {{104, 0}, {105, 6}, {106, 11}, {102, 11}, {101, 6}, {100, 0}, {204, 2}, {205, 9}, {206, 12},
            {202, 12}, {201, 9}, {200, 2}, {124, 2}, {125, 9}, {126, NONE}, {122, 9}, {121, 2}, {120, NONE}, {224, 4},
            {225, 10}, {226, NONE}, {222, 10}, {221, 4}, {220, NONE}, {144, 4}, {145, 10}, {146, NONE}, {142, 10},
            {141, 4}, {140, NONE}, {244, 6}, {245, 11}, {246, NONE}, {242, 11}, {241, 6}, {240, NONE}};
        for (int[] due : dues) {
            due("place(" + due[0] + ")", x.place(due[0]), due[1]);
        }
    }

    private static boolean isMark(int code) {
        if (code < 100) {
            return code >= 0 && code <= 12 || code >= 20 && code <= 32;
        }
        int rest = code % 100;
        return code < 300 && rest < 60 && rest % 20 <= 6 && rest % 20 != 3;
    }

    private void codesOfMarks() {
        for (int code = -400; code <= 700; code++) {
            if (code % 200 == 0) {
                fresh("its code is k; 20 and k; 100, 20 times the CLASS, and n and 3, added; 200, and likewise");
                write("a1-a1-a1-");
            }
            due("place(" + code + ") tells or not", x.place(code) == OUTSIDE ? 0 : 1, isMark(code) ? 1 : 0);
        }
        for (int code : new int[] {LOW, LOW + 1, LOW + 20, LOW + 104, LOW + 204, HIGH, HIGH - 1, 256, 65536, 65536 + 104,
            1 << 30, ~104, -104, -204}) {
            due("place(" + code + ")", x.place(code), OUTSIDE);
        }
    }

    /** The one cut of least cost: from where the last run of letters ends to where the last one of figures begins. */
    private void tellBetween() {
        tell("a-1>-");
        tell("-a.1->.");
        bestIs(3, cut(202, 122));
    }

    private void makesNothing(String line) {
        made(line, "");
        due("pool() of " + line, x.pool(), 1);
        due("agreeing(0) on " + line, x.agreeing(0), NO);
        due("accept(0) of " + line, x.accept(0), NO);
        due("asked() of " + line, x.asked(), NONE);
        due("drain(0)", x.drain(0), 0);
    }

    private void cutBetweenTwoPlaces() {
        fresh("the SIGNS from the one's PLACE to the other one's, if both tell one, the first one less than the second");
        tellBetween();
        made("a-1", "-");
        made("1a.0", ".");
        made("a-.-.-.-.-.1", "-.-.-.-.-.");
        makesNothing("a1");
        makesNothing("1a");
        makesNothing("1-a");
        makesNothing("1.........-a");
        fresh("the first one less than the second");
        tell("ab>ab");
        due("plans() of the whole line, or of its halves", x.plans(), 1 + 4 * 4 + (1 + 4 * 2) * (1 + 2 * 4));
    }

    private void cutBetweenEqualPlaces() {
        fresh("the first one less than the second, beside a PIECE that makes something");
        tell("a-1>e-");
        tell("-a.1->e.");
        bestIs(7, text(1, 'e'), cut(202, 122));
        made("a--1", "e--");
        makesNothing("a1");
        makesNothing("1a");
        makesNothing("1a1");
        fresh("the first one less than the second, ahead of a PIECE that makes something");
        tell("a-1>-e");
        tell("-a.1->.e");
        bestIs(7, cut(202, 122), text(1, 'e'));
        made("a--1", "--e");
        makesNothing("a1");
    }

    private void cutOfUntoldPlaces() {
        fresh("if both tell one");
        tellBetween();
        makesNothing("a-");
        makesNothing("-1");
        makesNothing("-");
        makesNothing("");
        tellAnew("1abcd>bc", "1dcabd>ca");
        bestIs(7, cut(2, 4));
        made("1abc", "bc");
        makesNothing("1ab");
        makesNothing("1");
    }

    private void textOfSigns() {
        fresh("a TEXT: 1 to 5 SIGNS as told");
        for (int many = 1; many <= 5; many++) {
            for (int first = 0; first + many <= 12; first++) {
                String signs = SIGNS.substring(first, first + many);
                tellAnew(">" + signs);
                bestIs(2 * many + 2, text(many, signs.charAt(0)));
                made("", signs);
                x.forget();
                if (first % 3 == 2) {
                    fresh("a TEXT: 1 to 5 SIGNS as told");
                }
            }
            fresh("a TEXT: 1 to 5 SIGNS as told");
        }
    }

    private void planOfPieces() {
        fresh("A PLAN: one or more PIECES");
        for (int many = 1; many <= 5; many++) {
            tellAnew(">" + "abcde".substring(0, many));
            due("plans() of " + many + " texts or fewer", x.plans(), 1 << (many - 1));
        }
        tellAnew("a>aaaaa", "1>11111");
        due("no class's runs and no text", x.plans(), 4 * 4 * 4 * 4 * 4);
        bestIs(35, cut(0, 1), cut(0, 1), cut(0, 1), cut(0, 1), cut(0, 1));
        made("abc", "aaaaa");
        made("-", "-----");
    }

    private void planEachMakesSomething() {
        fresh("it makes what they make, one behind another, if each makes something");
        tell("a-1>1-a");
        tell("e.3>3.e");
        bestIs(9, cut(122, 222), cut(142, 122), cut(102, 142));
        made("bc..04", "04..bc");
        makesNothing("bc..");
        makesNothing("bc04");
        makesNothing("..04");
        tellAnew("a>a.", "b>b.");
        bestIs(7, cut(102, 202), text(1, '.'));
        made("cde", "cde.");
        makesNothing("1");
        makesNothing("");
        tellAnew("a>.a", "b>.b");
        bestIs(7, text(1, '.'), cut(102, 202));
        made("cde", ".cde");
        makesNothing("-");
    }

    private void fitsEachExample() {
        fresh("It FITS, if it makes of each EXAMPLE's LINE what became of it");
        String[] examples = {"a>a", "1>1", "-.>-"};
        for (int first = 0; first < 3; first++) {
            tellAnew(examples[first], examples[(first + 1) % 3], examples[(first + 2) % 3]);
            due("plans() of LEFT 0 to 1 alone", x.plans(), 1);
            bestIs(7, cut(0, 1));
            tellAnew(examples[first], examples[(first + 1) % 3], ">a");
            due("plans() with what no cut makes", x.plans(), 0);
            due("cost(-1)", x.cost(-1), NONE);
        }
        tellAnew("a>a", "a>b");
        due("plans() of one LINE and two results", x.plans(), 0);
        tellAnew("a>b", "c>b", "1>b");
        due("plans() of a text", x.plans(), 1);
        tellAnew("a>b", "c>b", "1>bb");
        due("plans() of a longer result", x.plans(), 0);
        tellAnew("a>ba", "c>b");
        due("plans() of a shorter result", x.plans(), 0);
    }

    private void plansThatAreOne() {
        fresh("Two PLANS are one, if their PIECES are, one by one");
        tellAnew(">aa");
        due("one text, or two", x.plans(), 2);
        tellAnew("a>a");
        due("a text, or 4 marks and 4", x.plans(), 17);
        tellAnew("a1a>a");
        due("a text, 4 marks and 6, or 6 and 4", x.plans(), 49);
        tellAnew("a>aa");
        due("a text of two, or two of 17 pieces", x.plans(), 1 + 17 * 17);
        tellAnew("a>aa", "a>aa", "a>aa");
        due("the same of the same", x.plans(), 1 + 17 * 17);
    }

    private void costOfSides() {
        fresh("COST: of a LEFT, a RIGHT 3; of a CUT those of both MARKS, and 1");
        tellAnew("1a>1", "a->a", "-1>-");
        bestIs(7, cut(0, 1));
        due("cost(0)", x.cost(0), 7);
        tellAnew("a1>1", "1a>a", "aa->-");
        bestIs(7, cut(21, 20));
        due("cost(0)", x.cost(0), 7);
        tellAnew("ab1>a", "c->c", "db.>d");
        due("cost(0) of a LEFT beside a run's mark", x.cost(0), 5);
        bestIs(5, cut(102, 1));
        tellAnew("aab>b", "aaac>c", "d>d");
        due("cost(0) of a RIGHT beside a run's mark", x.cost(0), 5);
        bestIs(5, cut(21, 202));
    }

    private void costOfTheLastSides() {
        fresh("LEFT k (0 to 12): its code is k; of a LEFT, a RIGHT 3");
        tellAnew("aaaaaaaaaaa1>1", "11111111111a>a");
        due("plans() of LEFT 11, RIGHT 1; LEFT 12, RIGHT 0", x.plans(), 4);
        bestIs(7, cut(11, 12));
        tellAnew("1aaaaaaaaaaa>1", "a11111111111>a");
        due("plans() of LEFT 0, RIGHT 12; LEFT 1, RIGHT 11", x.plans(), 4);
        bestIs(7, cut(0, 1));
        tellAnew("1aaaaaaaaaaa>aaaaa", "a1111111111->11111", "-aaaaaaaaaa1>aaaaa");
        bestIs(7, cut(1, 6));
        made("abcdeabcdeab", "bcdea");
        tellAnew("aa1>1", "11a>a", "aaa->-");
        bestIs(7, cut(21, 20));
    }

    /** The same with figures, or with - and ., in place of letters. */
    private static String turned(String example, int kind) {
        String[] ofKind = {"abcde01234-.>", "01234abcde-.>", "--.--01234aa>"};
        String signs = SIGNS + ">";
        StringBuilder out = new StringBuilder();
        for (char sign : example.toCharArray()) {
            out.append(ofKind[kind].charAt(signs.indexOf(sign)));
        }
        return out.toString();
    }

    private void costOfRun(int n, int price, int plans, String one, String two) {
        for (int kind = 0; kind < 3; kind++) {
            fresh("of a BEGIN, an END 1, if n is 1 or -1, else 2");
            tellAnew(turned(one, kind), turned(two, kind));
            due("plans() of n " + n, x.plans(), plans);
            int begin = 100 + 20 * kind + n + 3;
            bestIs(2 * price + 1, cut(begin, begin + 100));
            due("cost(0) of n " + n, x.cost(0), 2 * price + 1);
        }
    }

    private void costOfRuns() {
        costOfRun(1, 1, 4, "1a-b>a", "--c1.dd>c");
        costOfRun(2, 2, 1, "aa1b>b", "a-c-d-e>c");
        costOfRun(3, 2, 1, "aa1b-c>c", "c.c1d.c.c>d");
        costOfRun(-1, 1, 4, "b-a1>a", "dd.1c-->c");
        costOfRun(-2, 2, 1, "b1aa>b", "e-d-c-a>c");
        costOfRun(-3, 2, 1, "c-b1aa>c", "c.c.d1c.c>d");
    }

    private void costOfTexts() {
        fresh("of a TEXT 2 for each SIGN, and 2");
        for (int many = 1; many <= 5; many++) {
            tellAnew(">" + "a".repeat(many));
            due("cost(0) of " + many, x.cost(0), 2 * many + 2);
            due("cost(-1) of " + many, x.cost(-1), 2 * many + 2);
            due("cost(1) of " + many, x.cost(1), NONE);
        }
    }

    private void costOfPlans() {
        fresh("of a PLAN those of its PIECES");
        tellAnew("a>aaaaa", "b>bbbbb");
        due("cost(-1) of five cuts", x.cost(-1), 15);
        due("cost(-2) of five cuts", x.cost(-2), 5);
        for (int i = 0; i < 5; i++) {
            due("cost(" + i + ") of five cuts", x.cost(i), 3);
        }
        due("cost(5) of five cuts", x.cost(5), NONE);
        tellAnew("a1-b2>2b-1a", "c3.d4>4d.3c");
        bestIs(15, cut(122, 222), cut(102, 122), cut(142, 102), cut(124, 142), cut(104, 124));
        made("aa11..bb22", "22bb..11aa");
        tellAnew("a1-b2>2.-0a", "c3-d4>4.-0c");
        bestIs(14, cut(122, 222), text(3, '.'), cut(104, 124));
        tellAnew("ab>.ab-", "1>.1-");
        bestIs(15, text(1, '.'), cut(0, 20), text(1, '-'));
        due("cost(0)", x.cost(0), 4);
        due("cost(1)", x.cost(1), 7);
        due("cost(2)", x.cost(2), 4);
    }

    private void bestCostsLeast() {
        fresh("BEST: of all that FIT that of the least COST");
        tellAnew("a>a");
        bestIs(3, cut(102, 202));
        tellAnew("abc>b");
        bestIs(4, text(1, 'b'));
        tellAnew("abcd>bc");
        bestIs(6, text(2, 'b'));
        tellAnew("abcde>bcd");
        bestIs(7, cut(1, 4));
    }

    private void bestCutAheadOfText() {
        fresh("of as little by the first PIECE at which they differ: a CUT ahead of a TEXT");
        tellAnew("a>aa");
        bestIs(6, cut(102, 202), cut(102, 202));
        tellAnew("-1>--");
        bestIs(6, cut(142, 122), cut(142, 122));
        tellAnew("11>1111");
        bestIs(6, cut(122, 222), cut(122, 222));
    }

    private void bestByFirstMark() {
        fresh("CUTS by the code of the first MARK, the lesser first");
        tellAnew("1>1");
        bestIs(3, cut(122, 222));
        tellAnew("-1->-");
        bestIs(3, cut(142, 242));
        tellAnew("-a->-");
        bestIs(3, cut(142, 242));
        tellAnew("abcdea>bcdea", "abcde1>bcde1");
        bestIs(7, cut(1, 6));
    }

    private void bestBySecondMark() {
        fresh("then of the second, the lesser first");
        tellAnew("1>1");
        bestIs(3, cut(122, 222));
        tellAnew("-1>-");
        bestIs(3, cut(142, 122));
        tellAnew("1a>1");
        bestIs(3, cut(122, 102));
        tellAnew("1a-b>1", "1->1");
        bestIs(3, cut(122, 222));
    }

    private void bestByFirstPiece() {
        fresh("by the first PIECE at which they differ");
        tellAnew("aa>aaa");
        bestIs(7, cut(102, 202), text(1, 'a'));
        tellAnew("-->---");
        bestIs(7, cut(142, 242), text(1, '-'));
        tellAnew("--1>---");
        bestIs(7, cut(142, 122), text(1, '-'));
    }

    private void bestShorterText() {
        fresh("TEXTS: the shorter first");
        tellAnew("11cd>.1cd");
        bestIs(9, text(1, '.'), cut(1, 202));
        tellAnew("baabb>aab", "bbaa>aaa");
        bestIs(11, text(1, 'a'), cut(2, 4));
        tellAnew("a-baa>bba", "bbba>bbb");
        bestIs(11, text(1, 'b'), cut(23, 21));
    }

    // ---- 3

    private void agreeing() {
        fresh("AGREEING on a LINE: how many PLANS that FIT make of it what BEST makes of it");
        tell("a>a");
        for (String line : new String[] {"a", "b", "ab", "a1", "1a", "aba"}) {
            ask(line);
        }
        due("on its own LINE", x.agreeing(0), 17);
        due("on another sign, the text does not", x.agreeing(1), 16);
        due("on ab: 3 marks and 3", x.agreeing(2), 9);
        due("on a1: LEFT 0, 2 BEGIN; LEFT 1, 2 END", x.agreeing(3), 9 + 1);
        due("on 1a: RIGHT 1, 2 BEGIN; RIGHT 0, 2 END", x.agreeing(4), 9 + 1);
        due("on aba: 3 marks and 3", x.agreeing(5), 9);
        tellAnew("a>a", "b>b", "c>c");
        due("plans() of three EXAMPLES", x.plans(), 16);
        due("of three EXAMPLES, on ab", x.agreeing(2), 9);
        due("of three EXAMPLES, on a", x.agreeing(0), 16);
        due("of three EXAMPLES, on a1", x.agreeing(3), 9);
        due("asked() of three EXAMPLES", x.asked(), 2);
        tellAnew("a>a", "ab>b", "abc>c");
        due("of RIGHT 1; RIGHT 0, 2 END, on b", x.agreeing(1), 3);
        due("of RIGHT 1; RIGHT 0, 2 END, on a1", x.agreeing(3), NO);
        tellAnew("a>b");
        due("a text on a", x.agreeing(0), 1);
        due("a text on aba", x.agreeing(5), 1);
    }

    /**
     * Of five unlike letters 4 marks tell the first place, 4 the last, and a LEFT and a RIGHT each of the 4 inside, where a
     * piece may end and another begin, or not. Of four letters LEFT 5 and RIGHT 5 tell no place; what ends and what begins
     * inside tell one place if both are LEFT or both RIGHT; of such places, each behind the one ahead, 21 rows are there.
     */
    private void agreeingBesideAllThatMayBe() {
        fresh("AGREEING on a LINE, beside 3 EXAMPLES, all of 5 SIGNS");
        long plans = 4 * 4 * 5 * 5 * 5 * 5;
        tellAnew("abcde>abcde", "bcdea>bcdea", "cdeab>cdeab");
        for (String line : new String[] {"deabc", "abcd", "abcdea", "eabcd"}) {
            ask(line);
        }
        due("agreeing(1), on four SIGNS", x.agreeing(1), 3 * 3 * 21);
        due("plans()", x.plans(), plans);
        due("agreeing(0), on five SIGNS", x.agreeing(0), plans);
        due("agreeing(2), on six SIGNS", x.agreeing(2), NO);
        due("agreeing(3), on five SIGNS", x.agreeing(3), plans);
        due("asked()", x.asked(), 1);
        due("accept(1)", x.accept(1), FULL);
        x.forget();
        due("accept(1) beside two EXAMPLES", x.accept(1), 3);
        due("plans()", x.plans(), 3 * 3 * 21);
        due("agreeing(0), on five SIGNS", x.agreeing(0), 3 * 3 * 21);
    }

    private void askedOneToFive() {
        fresh("ASKED: the LINE of the POOL of which BEST makes 1 to 5 SIGNS");
        tell("a>a");
        ask("1");
        due("of nothing", x.agreeing(0), NO);
        due("asked() of nothing", x.asked(), NONE);
        ask("abcdea");
        due("of six", x.agreeing(1), NO);
        due("asked() of six", x.asked(), NONE);
        ask("abcdeabcdeab");
        due("asked() of twelve", x.asked(), NONE);
        ask("abcde");
        due("of five", x.agreeing(3), 9);
        due("asked() of five", x.asked(), 3);
        x.drain(3);
        ask("a");
        due("of one", x.agreeing(3), 17);
        due("asked() of one", x.asked(), 3);
    }

    private void askedFewest() {
        fresh("and the fewest are AGREEING (of as few the first)");
        tell("a>a");
        ask("a");
        due("one LINE", x.asked(), 0);
        ask("b");
        due("fewer on the second", x.asked(), 1);
        ask("a1");
        due("fewer on the third", x.asked(), 2);
        ask("1a");
        due("as few on the fourth", x.asked(), 2);
        ask("ab");
        due("fewer on the fifth", x.asked(), 4);
        ask("ba");
        due("as few on the sixth", x.asked(), 4);
        x.drain(4);
        due("the sixth is the fifth", x.asked(), 4);
        x.drain(4);
        due("the first of those that are left", x.asked(), 2);
        x.drain(2);
        due("the fourth is the third", x.asked(), 2);
    }
}
