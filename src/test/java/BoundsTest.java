/**
 * Sentence by sentence, the bounds that the document names: the last number inside and the first
 * ones outside on both sides, nothing there, and all places taken. Promises 1 to 7: what is told.
 */
public final class BoundsTest extends Due {
    // ---- Promise 1

    private static void nothingIsThere() {
        sentence("1 Nothing is there");
        PointsToRounds x = new PointsToRounds();
        due("field(0)", x.field(0), -1);
        due("method(0, 0)", x.method(0, 0), -1);
        due("statement in METHOD 0", x.statement(0, MOVE, 0, 0, 0, 0, 0), -1);
        due("cls(0)", x.cls(0), -1);
        due("points(0, 0, 0)", x.points(0, 0, 0), -1);
        due("points(0, -1, 0)", x.points(0, -1, 0), -1);
        due("inField(0, 0)", x.inField(0, 0), -1);
        due("element(0)", x.element(0), -1);
        due("reached(0)", x.reached(0), -1);
        due("may(0)", x.may(0), -1);
        due("alias(0, 0, 0, 0)", x.alias(0, 0, 0, 0), -1);
        due("when(0, 0, 0)", x.when(0, 0, 0), -1);
        due("met(0, 0)", x.met(0, 0), -1);
        for (int s = 0; s < 4; s++) {
            due("inStatic(" + s + ")", x.inStatic(s), 0);
        }
        due("rounds()", x.rounds(), 0);
        due("run(0, 0)", x.run(0, 0), -3);
        for (int what = 0; what < 3; what++) {
            due("ran(" + what + ")", x.ran(what), 0);
        }
        due("clear()", x.clear(), 0);
    }

    private static void firstNumbersAreZero() {
        sentence("1 Nothing is there: the first numbers");
        PointsToRounds x = new PointsToRounds();
        due("cls(-1)", x.cls(-1), 0);
        due("field(0)", x.field(0), 0);
        due("method(0, 3)", x.method(0, 3), 0);
        due("NEW", say(x, 0, NEW, 0, 0, 0), 0);
        due("element(0)", x.element(0), 0);
    }

    private static void modeIsZeroAtFirst() {
        sentence("1 MODE 0");
        due("mode(0)", new PointsToRounds().mode(0), 0);
        due("mode(1)", new PointsToRounds().mode(1), 0);
        PointsToRounds x = oneMethod();
        say(x, 0, NEW, 0, 0, 0);
        due("CONTEXT 0", x.points(0, 0, 0), 1);
        due("CONTEXT 1", x.points(0, 1, 0), -1);
    }

    private static void objectsDoNotShare() {
        sentence("1 A new object has nothing of another");
        PointsToRounds used = full();
        used.mode(1);
        used.run(1, 300);
        nothingIsThere();
        modeIsZeroAtFirst();
        PointsToRounds x = new PointsToRounds();
        x.clear();
        x.mode(0);
        due("the other's MODE", used.mode(1), 1);
        due("the other's STATEMENTS", used.clear(), 60);
    }

    private static void lastCallAnswers() {
        sentence("at most 512 calls");
        PointsToRounds x = oneMethod();
        say(x, 0, NEW, 1, 0, 0);
        for (int call = 4; call < 512; call++) {
            due("call " + call, x.points(0, 0, 1), 1);
        }
        due("call 512", x.clear(), 1);
        PointsToRounds y = full();
        y.mode(1);
        int first = y.run(7, 300);
        int made = y.ran(0);
        for (int call = 90; call < 512; call += 2) {
            due("run at call " + call, y.run(7, 300), first);
            due("ran at call " + (call + 1), y.ran(0), made);
        }
    }

    // ---- Promise 2

    private static void eightClasses() {
        sentence("2 CLASSES are numbered 0, 1, .. (8 at most)");
        PointsToRounds x = new PointsToRounds();
        for (int i = 0; i < 8; i++) {
            due("CLASS " + i + " is not there before", x.field(i), -1);
            due("cls(-1)", x.cls(-1), i);
        }
        due("a ninth", x.cls(-1), -4);
        due("the eighth is there", x.field(7), 0);
        due("the ninth is not", x.field(8), -1);
    }

    private static void parentIsAnEarlierOne() {
        sentence("2 a PARENT, an earlier one, or none");
        for (int parent = -1; parent < 7; parent++) {
            PointsToRounds x = new PointsToRounds();
            for (int i = 0; i <= parent; i++) {
                x.cls(-1);
            }
            int next = parent + 1;
            due("itself as PARENT", x.cls(next), -1);
            due("a later one as PARENT", x.cls(next + 1), -1);
            due("-2 as PARENT", x.cls(-2), -1);
            due("the latest, or none", x.cls(parent), next);
        }
    }

    private static void refusedParentBeforeRoom() {
        sentence("2 -1 the PARENT, -4: the first that fits");
        PointsToRounds x = chain();
        due("cls(8)", x.cls(8), -1);
        due("cls(-2)", x.cls(-2), -1);
        due("cls(FAR)", x.cls(FAR), -1);
        due("cls(DEEP)", x.cls(DEEP), -1);
        due("cls(7)", x.cls(7), -4);
        due("cls(0)", x.cls(0), -4);
        due("cls(-1)", x.cls(-1), -4);
    }

    /** SITE c is of CLASS c; what a CAST to CLASS u lets through are the CLASSES UNDER u. */
    private static void underInAChain() {
        sentence("2 a CLASS is UNDER itself, its PARENT, its PARENT's, and so on");
        PointsToRounds x = chain();
        for (int c = 0; c < 8; c++) {
            say(x, 0, NEW, 0, c, 0);
        }
        for (int u = 0; u < 8; u++) {
            say(x, 0, CAST, 1, 0, u);
        }
        for (int u = 0; u < 8; u++) {
            due("SITES that fail a CAST to CLASS " + u, x.may(8 + u), (1 << u) - 1);
        }
    }

    private static void underInATree() {
        sentence("2 UNDER: no sibling, no child");
        PointsToRounds x = new PointsToRounds();
        int[] parents = {-1, 0, 0, 1, 1, 2, 3, -1};
        int[] under = {0b01111111, 0b01011010, 0b00100100, 0b01001000, 0b00010000, 0b00100000, 0b01000000, 0b10000000};
        for (int parent : parents) {
            x.cls(parent);
        }
        x.method(7, 0);
        for (int c = 0; c < 8; c++) {
            say(x, 0, NEW, 0, c, 0);
        }
        for (int u = 0; u < 8; u++) {
            int cast = say(x, 0, CAST, 1, 0, u);
            due("SITES that fail a CAST to CLASS " + u, x.may(cast), 255 & ~under[u]);
        }
    }

    // ---- Promise 3

    private static void eightFields() {
        sentence("3 FIELDS 0, 1, .. (8 at most)");
        PointsToRounds x = oneMethod();
        say(x, 0, NEW, 0, 0, 0);
        for (int i = 0; i < 8; i++) {
            due("FIELD " + i + " is not there before", x.inField(0, i), -1);
            due("field(0)", x.field(0), i);
        }
        due("a ninth", x.field(0), -4);
        due("the eighth is there", x.inField(0, 7), 0);
        due("the ninth is not", x.inField(0, 8), -1);
    }

    private static void fieldsOfAClass() {
        sentence("3 a FIELD of a CLASS: -1, -4");
        PointsToRounds x = chain();
        due("field(-1)", x.field(-1), -1);
        due("field(8)", x.field(8), -1);
        due("of the first CLASS", x.field(0), 0);
        due("of the last CLASS", x.field(7), 1);
        for (int i = 2; i < 8; i++) {
            due("of CLASS " + i, x.field(i), i);
        }
        due("a ninth, no CLASS", x.field(8), -1);
        due("a ninth, no CLASS", x.field(-1), -1);
        due("a ninth", x.field(7), -4);
    }

    /** FIELD f is of CLASS f; SITE c, of CLASS c, has it where c is not above f in the chain. */
    private static void fieldsOfObjects() {
        sentence("3 An object has a FIELD, if its CLASS is UNDER that of the FIELD");
        PointsToRounds x = chain();
        for (int i = 0; i < 8; i++) {
            x.field(i);
            say(x, 0, NEW, 1, i, 0);
        }
        for (int f = 0; f < 8; f++) {
            say(x, 0, STORE, 1, 1, f);
        }
        for (int c = 0; c < 8; c++) {
            for (int f = 0; f < 8; f++) {
                due("inField(" + c + ", " + f + ")", x.inField(c, f), f <= c ? 255 : 0);
            }
        }
    }

    // ---- Promise 4

    private static void tenMethods() {
        sentence("4 METHODS 0, 1, .. (10 at most)");
        PointsToRounds x = chain();
        for (int m = 1; m < 10; m++) {
            due("METHOD " + m + " is not there before", x.reached(m), -1);
            due("method", x.method(m % 8, m / 8 + 1), m);
        }
        due("the tenth is there", x.reached(9), 0);
        due("an eleventh", x.method(7, 3), -4);
        due("an eleventh", x.method(2, 2), -4);
        due("it is not there", x.reached(10), -1);
    }

    private static void fourSignatures() {
        sentence("4 a SIGNATURE 0 .. 3");
        PointsToRounds x = new PointsToRounds();
        x.cls(-1);
        due("SIGNATURE -1", x.method(0, -1), -2);
        due("SIGNATURE 4", x.method(0, 4), -2);
        due("SIGNATURE FAR", x.method(0, FAR), -2);
        due("SIGNATURE DEEP", x.method(0, DEEP), -2);
        for (int g = 0; g < 4; g++) {
            due("SIGNATURE " + g, x.method(0, g), g);
        }
    }

    private static void oneOfAClassAndSignature() {
        sentence("4 one of a CLASS and SIGNATURE; -3 the CLASS has one with it");
        PointsToRounds x = new PointsToRounds();
        x.cls(-1);
        x.cls(0);
        due("CLASS 0, 1", x.method(0, 1), 0);
        due("CLASS 0, 1 again", x.method(0, 1), -3);
        due("the PARENT's is no hindrance", x.method(1, 1), 1);
        due("CLASS 1, 1 again", x.method(1, 1), -3);
        due("another SIGNATURE", x.method(1, 0), 2);
        due("the child's is no hindrance", x.method(0, 0), 3);
        due("CLASS 0, 0 again", x.method(0, 0), -3);
    }

    private static void refusalsOfMethodInOrder() {
        sentence("4 -1, -2 SIGNATURE, -3, -4: the first that fits");
        PointsToRounds x = full();
        due("-1 before -2", x.method(8, 4), -1);
        due("-1 before -2", x.method(-1, -1), -1);
        due("-2 before -4", x.method(7, 4), -2);
        due("-2 before -4", x.method(0, -1), -2);
        due("-3 before -4", x.method(0, 0), -3);
        due("-3 before -4", x.method(2, 1), -3);
        due("-4", x.method(2, 2), -4);
    }

    private static void methodFoundUpTheChain() {
        sentence("4 The METHOD FOUND: that of the CLASS, or of its PARENT, and so on");
        PointsToRounds x = chain();
        say(x, 0, NEW, 1, 7, 0);
        int call = x.statement(0, CALL, 2, 1, 0, 1, 1);
        due("seven PARENTS up", x.may(call), 1);
        for (int c = 1; c < 8; c++) {
            x.method(c, 0);
            due("of CLASS " + c + ", nearer", x.may(call), 1 << c);
        }
    }

    private static void methodFoundIsPerhapsNone() {
        sentence("4 METHOD FOUND: perhaps none");
        PointsToRounds x = family();
        x.method(2, 1);
        x.method(3, 1);
        say(x, 0, NEW, 1, 1, 0);
        int call = x.statement(0, CALL, 2, 1, 1, 1, 1);
        due("not that of a child, nor of another", x.may(call), 0);
        due("the child's is not REACHED", x.reached(1), 0);
        due("nor the other's", x.reached(2), 0);
        int other = x.statement(0, CALL, 2, 1, 3, 1, 1);
        due("not that of another SIGNATURE", x.may(other), 0);
        x.method(0, 1);
        due("the PARENT's, told later", x.may(call), 1 << 3);
    }

    private static void classToldLaterFindsMethods() {
        sentence("4 METHOD FOUND for a CLASS that is told after the METHOD");
        PointsToRounds x = oneMethod();
        x.method(0, 3);
        x.cls(0);
        x.cls(-1);
        say(x, 0, NEW, 1, 1, 0);
        say(x, 0, NEW, 2, 2, 0);
        due("its PARENT's", x.may(x.statement(0, CALL, 3, 1, 3, 1, 1)), 1 << 1);
        due("without a PARENT none", x.may(x.statement(0, CALL, 3, 2, 3, 1, 1)), 0);
    }

    // ---- Promise 5

    private static void sixtyStatements() {
        sentence("5 STATEMENTS are numbered 0, 1, .. (60 at most)");
        PointsToRounds x = oneMethod();
        x.method(0, 1);
        for (int i = 0; i < 60; i++) {
            due("STATEMENT " + i + " is not there before", x.may(i), -1);
            due("statement", say(x, i % 2, CAST, 1, 0, 0), i);
        }
        due("the 60th is there", x.may(59), 0);
        due("a 61st", say(x, 0, CAST, 1, 0, 0), -4);
        due("a 61st in the other METHOD", say(x, 1, CAST, 1, 0, 0), -4);
        due("a 61st that is a SITE", say(x, 0, NEW, 1, 0, 0), -4);
        due("it is not there", x.may(60), -1);
        due("nor is a SITE", x.element(0), -1);
    }

    private static void sixtyOfOneMethod() {
        sentence("5 STATEMENTS 60 at most, all of one METHOD");
        PointsToRounds x = chain();
        for (int m = 1; m < 10; m++) {
            x.method(m / 4, m % 4);
        }
        x.statement(0, NEW, 1, 0, 0, 0, 0);
        x.statement(0, CALL, 2, 1, 1, 1, 1);
        x.statement(0, NEW, 1, 2, 0, 0, 0);
        for (int g = 0; g < 2; g++) {
            x.statement(0, CALL, 2, 1, g, 1, 1);
        }
        for (int i = 5; i < 59; i++) {
            say(x, 9, MOVE, 4, 3, 0);
        }
        due("the 60th", say(x, 9, MOVE, 3, 1, 0), 59);
        due("it is done", x.points(9, 0, 4), 3);
    }

    private static void kindsZeroToNine() {
        sentence("5 -2 KIND");
        PointsToRounds x = family();
        for (int kind : new int[] {-1, 10, FAR, DEEP}) {
            due("KIND " + kind, x.statement(0, kind, 0, 0, 0, 0, 0), -2);
        }
        for (int kind = 0; kind < 10; kind++) {
            due("KIND " + kind, tell(x, 0, kind, zeros(kind)), kind);
        }
    }

    private static int[] edgesOf(char shape) {
        return switch (shape) {
            case 'n' -> new int[] {0, 5, -1, 6};
            case 'f' -> new int[] {0, 1, -1, 2};
            default -> new int[] {0, 3, -1, 4};
        };
    }

    /** The family has 4 CLASSES and 2 FIELDS; the first two edges are inside, the last two outside. */
    private static void numbersOfKinds() {
        for (int kind = 0; kind < 10; kind++) {
            for (int place = 0; place < 5; place++) {
                char shape = SHAPES[kind].charAt(place);
                if (shape == '.') {
                    continue;
                }
                sentence("5 KIND " + kind + ", " + "pqrst".charAt(place));
                int[] edges = edgesOf(shape);
                PointsToRounds x = family();
                int refusal = shape == 'g' ? -2 : -1;
                due("below", tell(x, 0, kind, with(zeros(kind), place, edges[2])), refusal);
                due("above", tell(x, 0, kind, with(zeros(kind), place, edges[3])), refusal);
                due("DEEP", tell(x, 0, kind, with(zeros(kind), place, DEEP)), refusal);
                due("FAR", tell(x, 0, kind, with(zeros(kind), place, FAR)), refusal);
                due("first", tell(x, 0, kind, with(zeros(kind), place, edges[0])), 0);
                due("last", tell(x, 0, kind, with(zeros(kind), place, edges[1])), 1);
            }
        }
    }

    private static void numbersThatDoNotCount() {
        sentence("5 those not told here do not count");
        for (int kind = 0; kind < 10; kind++) {
            for (int number : new int[] {-1, 6, FAR, DEEP}) {
                PointsToRounds x = family();
                int[] n = new int[5];
                for (int place = 0; place < 5; place++) {
                    n[place] = SHAPES[kind].charAt(place) == '.' ? number : 0;
                }
                due("KIND " + kind + " with " + number, tell(x, 0, kind, n), 0);
                due("its METHOD runs", x.run(1, 100), 1);
                due("and has a LAST ROUND", x.rounds(), kind == NEW ? 1 : 0);
            }
        }
    }

    private static void refusalsOfStatementInOrder() {
        sentence("5 -1 METHOD, -2 KIND, -1 numbers, -2 SIGNATURE, -4: the first that fits");
        PointsToRounds x = full();
        due("METHOD before KIND", x.statement(10, 10, 6, 6, 4, 6, 6), -1);
        due("METHOD before KIND", x.statement(-1, -1, 6, 6, 4, 6, 6), -1);
        due("KIND before the numbers", x.statement(0, 10, 6, 6, 4, 6, 6), -2);
        due("KIND before the numbers", x.statement(9, -1, -1, -1, -1, -1, -1), -2);
        for (int place : new int[] {0, 1, 3, 4}) {
            due("a NAME before the SIGNATURE", tell(x, 0, CALL, with(with(zeros(CALL), 2, 4), place, 6)), -1);
            due("a NAME before the SIGNATURE", tell(x, 0, CALL, with(with(zeros(CALL), 2, -1), place, -1)), -1);
        }
        due("the SIGNATURE before room", tell(x, 0, CALL, with(zeros(CALL), 2, 4)), -2);
        due("the SIGNATURE before room", tell(x, 0, CALL, with(zeros(CALL), 2, -1)), -2);
        due("a CLASS before room", x.statement(0, NEW, 0, 8, 0, 0, 0), -1);
        due("a FIELD before room", x.statement(0, LOAD, 0, 0, 8, 0, 0), -1);
        due("a STATIC before room", x.statement(0, PUT, 4, 0, 0, 0, 0), -1);
        due("room", x.statement(0, NEW, 0, 7, 0, 0, 0), -4);
    }

    private static void twentySites() {
        sentence("5 SITES, numbered as they come (20 at most); -4 (also a 21st SITE)");
        PointsToRounds x = oneMethod();
        x.method(0, 1);
        for (int i = 0; i < 20; i++) {
            due("SITE " + i + " is not there before", x.element(i), -1);
            due("NEW", say(x, i % 2, NEW, 1 + i % 2, 0, 0), 2 * i);
            due("between the SITES", say(x, 0, MOVE, 3, 1, 0), 2 * i + 1);
        }
        due("the 20th is there", x.element(19), 0);
        due("a 21st", say(x, 0, NEW, 1, 0, 0), -4);
        due("a 21st in the other METHOD", say(x, 1, NEW, 1, 0, 0), -4);
        due("it is not there", x.element(20), -1);
        due("another KIND still has room", say(x, 0, MOVE, 4, 1, 0), 40);
        due("METHOD 0 has the even ones", x.points(0, 0, 1), 0b01010101010101010101);
        x.statement(0, CALL, 5, 1, 1, 0, 0);
        due("METHOD 1 the odd ones", x.points(1, 0, 2), 0b10101010101010101010);
    }

    private static void lastSiteByLastStatement() {
        sentence("5 the 20th SITE may be the 60th STATEMENT");
        PointsToRounds x = oneMethod();
        for (int i = 0; i < 40; i++) {
            say(x, 0, MOVE, 2, 1, 0);
        }
        for (int i = 40; i < 60; i++) {
            due("NEW", say(x, 0, NEW, 1, 0, 0), i);
        }
        due("all SITES", x.points(0, 0, 2), ALL_SITES);
        due("a 61st", say(x, 0, MOVE, 1, 1, 0), -4);
    }

    private static void refusedStatementsTakeNoNumber() {
        sentence("5 a refused STATEMENT takes no number");
        PointsToRounds x = oneMethod();
        say(x, 0, NEW, 1, 1, 0);
        say(x, 0, NEW, 6, 0, 0);
        say(x, 1, NEW, 1, 0, 0);
        due("NEW", say(x, 0, NEW, 1, 0, 0), 0);
        due("its SITE", x.points(0, 0, 1), 1);
    }

    // ---- Promise 6

    private static void modeTellsWhatItWas() {
        sentence("6 MODE 0 or 1: what it was");
        PointsToRounds x = new PointsToRounds();
        due("0 to 0", x.mode(0), 0);
        due("0 to 1", x.mode(1), 0);
        due("1 to 1", x.mode(1), 1);
        due("1 to 0", x.mode(0), 1);
        due("0 to 0", x.mode(0), 0);
    }

    private static void noOtherMode() {
        sentence("6 -2");
        PointsToRounds x = new PointsToRounds();
        for (int was = 0; was < 2; was++) {
            x.mode(was);
            for (int m : new int[] {-1, 2, FAR, DEEP}) {
                due("mode(" + m + ")", x.mode(m), -2);
            }
            due("after refusals", x.mode(was), was);
        }
    }

    private static void modeCountsForWhatWasTold() {
        sentence("6 a MODE told later counts for what is there");
        PointsToRounds x = oneMethod();
        x.method(0, 1);
        say(x, 0, NEW, 1, 0, 0);
        say(x, 0, NEW, 2, 0, 0);
        x.statement(0, CALL, 3, 1, 1, 1, 1);
        x.statement(0, CALL, 3, 2, 1, 1, 1);
        due("MODE 0", x.reached(1), 1);
        x.mode(1);
        due("MODE 1", x.reached(1), 2);
        x.mode(0);
        due("MODE 0 again", x.reached(1), 1);
        due("with all in CONTEXT 0", x.points(1, 0, 0), 3);
    }

    // ---- Promise 7

    private static void clearCountsStatements() {
        sentence("7 how many STATEMENTS there were");
        due("of a new object", new PointsToRounds().clear(), 0);
        due("of a METHOD without any", oneMethod().clear(), 0);
        PointsToRounds one = oneMethod();
        say(one, 0, MOVE, 0, 0, 0);
        due("one", one.clear(), 1);
        PointsToRounds x = full();
        due("all", x.clear(), 60);
        due("at once again", x.clear(), 0);
    }

    private static void clearLeavesNothing() {
        sentence("7 Nothing is there any more");
        PointsToRounds x = full();
        x.run(3, 300);
        x.clear();
        due("cls(0)", x.cls(0), -1);
        due("field(0)", x.field(0), -1);
        due("method(0, 0)", x.method(0, 0), -1);
        due("statement in METHOD 0", x.statement(0, MOVE, 0, 0, 0, 0, 0), -1);
        due("points(0, -1, 0)", x.points(0, -1, 0), -1);
        due("inField(0, 0)", x.inField(0, 0), -1);
        due("element(0)", x.element(0), -1);
        due("reached(0)", x.reached(0), -1);
        due("may(0)", x.may(0), -1);
        due("alias(0, 0, 0, 0)", x.alias(0, 0, 0, 0), -1);
        due("when(0, 0, 0)", x.when(0, 0, 0), -1);
        due("met(0, 0)", x.met(0, 0), -1);
        due("run(3, 300)", x.run(3, 300), -3);
        due("rounds()", x.rounds(), 0);
        for (int i = 0; i < 4; i++) {
            due("inStatic(" + i + ")", x.inStatic(i), 0);
        }
        for (int what = 0; what < 3; what++) {
            due("ran(" + what + ")", x.ran(what), 0);
        }
    }

    private static void modeStays() {
        sentence("7 MODE stays");
        for (int mode = 0; mode < 2; mode++) {
            PointsToRounds x = full();
            x.mode(mode);
            x.clear();
            due("MODE " + mode, x.mode(mode), mode);
            x.clear();
            due("MODE " + mode + " with nothing there", x.mode(1 - mode), mode);
        }
    }

    private static void allPlacesAreFreeAgain() {
        sentence("7 all places can be taken again");
        PointsToRounds x = full();
        x.clear();
        for (int i = 0; i < 8; i++) {
            due("CLASS", x.cls(-1), i);
        }
        for (int i = 0; i < 8; i++) {
            due("FIELD", x.field(0), i);
        }
        for (int i = 0; i < 10; i++) {
            due("METHOD", x.method(i / 4, i % 4), i);
        }
        for (int i = 0; i < 60; i++) {
            due("STATEMENT", say(x, i % 10, i < 20 ? NEW : MOVE, 1, 1, 0), i);
        }
        due("a ninth CLASS", x.cls(-1), -4);
        due("a ninth FIELD", x.field(0), -4);
        due("an eleventh METHOD", x.method(7, 0), -4);
        due("a 61st STATEMENT", say(x, 0, MOVE, 1, 1, 0), -4);
        due("clear()", x.clear(), 60);
    }

    /** The same numbers mean other things after a clear: what stood behind them must not show. */
    private static void nothingShowsThrough() {
        sentence("7 nothing of before shows in what is told after");
        PointsToRounds x = full();
        x.clear();
        x.cls(-1);
        x.cls(-1);
        x.method(1, 0);
        x.field(1);
        say(x, 0, NEW, 1, 0, 0);
        say(x, 0, NEW, 2, 1, 0);
        int cast = say(x, 0, CAST, 3, 2, 0);
        int call = x.statement(0, CALL, 4, 1, 0, 1, 1);
        say(x, 0, STORE, 1, 2, 0);
        due("CLASS 1 is UNDER 0 no more", x.may(cast), 2);
        due("CLASS 0 has no METHOD any more", x.may(call), 0);
        due("FIELD 0 is CLASS 0's no more", x.inField(0, 0), 0);
        due("NAME 5", x.points(0, -1, 5), 0);
        due("rounds()", x.rounds(), 1);
        due("a METHOD has no STATEMENT of before", x.method(0, 1), 1);
        x.statement(0, CALL, 4, 1, 1, 1, 1);
        due("once REACHED", x.points(1, -1, 0), 1);
        due("it makes nothing", x.points(1, -1, 2), 1);
        due("nor gives", x.points(1, -1, 5), 0);
    }

    public static void main(String[] args) {
        nothingIsThere();
        firstNumbersAreZero();
        modeIsZeroAtFirst();
        objectsDoNotShare();
        lastCallAnswers();
        eightClasses();
        parentIsAnEarlierOne();
        refusedParentBeforeRoom();
        underInAChain();
        underInATree();
        eightFields();
        fieldsOfAClass();
        fieldsOfObjects();
        tenMethods();
        fourSignatures();
        oneOfAClassAndSignature();
        refusalsOfMethodInOrder();
        methodFoundUpTheChain();
        methodFoundIsPerhapsNone();
        classToldLaterFindsMethods();
        sixtyStatements();
        sixtyOfOneMethod();
        kindsZeroToNine();
        numbersOfKinds();
        numbersThatDoNotCount();
        refusalsOfStatementInOrder();
        twentySites();
        lastSiteByLastStatement();
        refusedStatementsTakeNoNumber();
        modeTellsWhatItWas();
        noOtherMode();
        modeCountsForWhatWasTold();
        clearCountsStatements();
        clearLeavesNothing();
        modeStays();
        allPlacesAreFreeAgain();
        nothingShowsThrough();
        end();
    }
}
