/** Each promise by hand: ordinary inputs, the edges that the document names, and wrong inputs. */
public final class PromisesTest extends Due {
    private static void newObject() {
        sentence("1 new object");
        PointsToRounds x = new PointsToRounds();
        due("rounds()", x.rounds(), 0);
        due("inStatic(0)", x.inStatic(0), 0);
        due("may(0)", x.may(0), -1);
        due("reached(0)", x.reached(0), -1);
        due("element(0)", x.element(0), -1);
        due("ran(0)", x.ran(0), 0);
        due("ran(1)", x.ran(1), 0);
        due("ran(2)", x.ran(2), 0);
        due("clear()", x.clear(), 0);
        due("mode(0)", x.mode(0), 0);
        due("cls(-1)", x.cls(-1), 0);
    }

    private static void cls() {
        sentence("2 cls");
        PointsToRounds x = new PointsToRounds();
        due("cls(0) of none", x.cls(0), -1);
        for (int i = 0; i < 8; i++) {
            due("cls(itself)", x.cls(i), -1);
            due("cls(-2)", x.cls(-2), -1);
            due("cls", x.cls(i - 1), i);
        }
        due("a ninth", x.cls(-1), -4);
        due("a ninth", x.cls(7), -4);
        due("a ninth with no PARENT there", x.cls(8), -1);
        due("a ninth with no PARENT there", x.cls(DEEP), -1);
        due("field(7)", x.field(7), 0);
        due("field(8)", x.field(8), -1);
    }

    private static void field() {
        sentence("3 field");
        PointsToRounds x = new PointsToRounds();
        due("field(0) of none", x.field(0), -1);
        x.cls(-1);
        x.cls(-1);
        for (int i = 0; i < 8; i++) {
            due("field(-1)", x.field(-1), -1);
            due("field", x.field(i & 1), i);
        }
        due("a ninth", x.field(0), -4);
        due("a ninth of no CLASS", x.field(2), -1);
        due("a ninth of no CLASS", x.field(FAR), -1);
    }

    private static void method() {
        sentence("4 method");
        PointsToRounds x = new PointsToRounds();
        due("no CLASS", x.method(0, 0), -1);
        x.cls(-1);
        x.cls(0);
        x.cls(1);
        due("no CLASS, wrong SIGNATURE", x.method(3, 4), -1);
        due("no CLASS", x.method(-1, 0), -1);
        due("SIGNATURE 4", x.method(0, 4), -2);
        due("SIGNATURE -1", x.method(0, -1), -2);
        for (int i = 0; i < 10; i++) {
            due("method", x.method(i / 4, i % 4), i);
            due("again", x.method(i / 4, i % 4), -3);
        }
        due("an eleventh", x.method(2, 2), -4);
        due("an eleventh that is there", x.method(2, 1), -3);
        due("an eleventh, wrong SIGNATURE", x.method(2, 4), -2);
        due("an eleventh of no CLASS", x.method(3, 0), -1);
    }

    private static void foundMethods() {
        sentence("4 METHOD FOUND");
        PointsToRounds x = family();
        x.cls(2);
        due("PARENT's", x.method(0, 1), 1);
        say(x, 0, NEW, 3, 4, 0);
        x.statement(0, CALL, 4, 3, 1, 4, 4);
        due("may: by three PARENTS", x.may(1), 1 << 1);
        due("told later, nearer", x.method(1, 1), 2);
        due("may: nearer", x.may(1), 1 << 2);
        due("told later, farther", x.method(3, 1), 3);
        due("may: not one of another CLASS", x.may(1), 1 << 2);
        due("a CLASS after the METHODS", x.cls(1), 5);
        say(x, 0, NEW, 3, 5, 0);
        say(x, 0, NEW, 3, 0, 0);
        due("may: of all three", x.may(1), 1 << 1 | 1 << 2);
    }

    private static void statement() {
        sentence("5 statement");
        PointsToRounds x = family();
        due("no METHOD, wrong KIND", say(x, 1, 10, 0, 0, 0), -1);
        due("METHOD -1", say(x, -1, NEW, 0, 0, 0), -1);
        due("KIND -1, no NAME", say(x, 0, -1, 9, 9, 9), -2);
        due("KIND 10, no NAME", say(x, 0, 10, 9, 9, 9), -2);
        for (int name : new int[] {-1, 6, FAR, DEEP}) {
            for (int kind = 0; kind < 10; kind++) {
                due("p of KIND " + kind, x.statement(0, kind, name, 0, 0, 0, 0), -1);
                due("q of KIND " + kind, x.statement(0, kind, 0, name, 0, 0, 0), -1);
            }
            due("r of LOAD", say(x, 0, LOAD, 0, 0, name), -1);
            due("r of STORE", say(x, 0, STORE, 0, 0, name), -1);
            due("r of CAST", say(x, 0, CAST, 0, 0, name), -1);
            due("r of CALL", x.statement(0, CALL, 0, 0, name, 0, 0), -2);
            due("s of CALL", x.statement(0, CALL, 0, 0, 0, name, 0), -1);
            due("t of CALL", x.statement(0, CALL, 0, 0, 0, 0, name), -1);
            due("r and t of CALL", x.statement(0, CALL, 0, 0, 4, 0, name), -1);
        }
        due("r of CALL 4", x.statement(0, CALL, 0, 0, 4, 0, 0), -2);
        due("CLASS 4", say(x, 0, NEW, 0, 4, 0), -1);
        due("CAST to CLASS 4", say(x, 0, CAST, 0, 0, 4), -1);
        due("FIELD 2 of LOAD", say(x, 0, LOAD, 0, 0, 2), -1);
        due("FIELD 2 of STORE", say(x, 0, STORE, 0, 0, 2), -1);
        due("STATIC 4 of GET", say(x, 0, GET, 0, 4, 0), -1);
        due("STATIC 4 of PUT", say(x, 0, PUT, 4, 0, 0), -1);
        due("NEW", say(x, 0, NEW, 5, 3, FAR), 0);
        due("MOVE", say(x, 0, MOVE, 5, 5, FAR), 1);
        due("LOAD", say(x, 0, LOAD, 5, 5, 1), 2);
        due("STORE", say(x, 0, STORE, 5, 5, 1), 3);
        due("CAST", say(x, 0, CAST, 5, 5, 3), 4);
        due("GET", say(x, 0, GET, 5, 3, FAR), 5);
        due("PUT", say(x, 0, PUT, 3, 5, FAR), 6);
        due("CALL", x.statement(0, CALL, 5, 5, 3, 5, 5), 7);
        due("TAKE", say(x, 0, TAKE, 5, 5, DEEP), 8);
        due("LAY", say(x, 0, LAY, 5, 5, DEEP), 9);
    }

    private static void statementRoom() {
        sentence("5 statement, room");
        PointsToRounds x = oneMethod();
        for (int i = 0; i < 20; i++) {
            due("NEW", say(x, 0, NEW, 1, 0, 0), i);
        }
        due("a 21st SITE", say(x, 0, NEW, 1, 0, 0), -4);
        due("a 21st SITE, no NAME", say(x, 0, NEW, 6, 0, 0), -1);
        for (int i = 20; i < 60; i++) {
            due("MOVE", say(x, 0, MOVE, 2, 1, 0), i);
        }
        due("a 61st", say(x, 0, MOVE, 2, 1, 0), -4);
        due("a 61st, no NAME", say(x, 0, MOVE, 2, 6, 0), -1);
        due("a 61st, no SIGNATURE", x.statement(0, CALL, 0, 0, 4, 0, 0), -2);
        due("element(19)", x.element(19), 0);
        due("element(20)", x.element(20), -1);
        due("all SITES", x.points(0, 0, 2), (1 << 20) - 1);
        due("may(60)", x.may(60), -1);
        due("may(59)", x.may(59), -3);
    }

    private static void mode() {
        sentence("6 mode");
        PointsToRounds x = oneMethod();
        due("mode(1)", x.mode(1), 0);
        due("mode(1) again", x.mode(1), 1);
        due("mode(2)", x.mode(2), -2);
        due("mode(-1)", x.mode(-1), -2);
        due("mode(0) after refusals", x.mode(0), 1);
        due("mode(0) again", x.mode(0), 0);
    }

    private static void clear() {
        sentence("7 clear");
        PointsToRounds x = family();
        x.method(1, 0);
        say(x, 0, NEW, 3, 2, 0);
        say(x, 0, STORE, 3, 3, 0);
        say(x, 0, LAY, 3, 3, 0);
        say(x, 0, PUT, 2, 3, 0);
        say(x, 0, GET, 5, 2, 0);
        x.mode(1);
        x.run(1, 50);
        due("inStatic(2)", x.inStatic(2), 1);
        due("clear()", x.clear(), 5);
        due("clear() again", x.clear(), 0);
        due("rounds()", x.rounds(), 0);
        due("inStatic(2)", x.inStatic(2), 0);
        due("field(0)", x.field(0), -1);
        due("element(0)", x.element(0), -1);
        due("run(1, 1)", x.run(1, 1), -3);
        due("ran(0)", x.ran(0), 0);
        due("ran(1)", x.ran(1), 0);
        due("cls(-1)", x.cls(-1), 0);
        due("method(0, 0)", x.method(0, 0), 0);
        due("met(0, 3)", x.met(0, 3), 0);
        due("points(0, 0, 3)", x.points(0, 0, 3), 0);
        due("field(0)", x.field(0), 0);
        due("NEW", say(x, 0, NEW, 4, 0, 0), 0);
        due("element(0)", x.element(0), 0);
        due("inField(0, 0)", x.inField(0, 0), 0);
        due("points(0, 0, 4)", x.points(0, 0, 4), 1);
        due("MODE stays", x.mode(0), 1);
        due("METHODS of before", x.statement(0, CALL, 1, 4, 1, 4, 4), 1);
        due("may(1)", x.may(1), 0);
    }

    /** METHOD 1 gives its first; called on two SITES with two others. */
    private static PointsToRounds twoReceivers() {
        PointsToRounds x = oneMethod();
        x.method(0, 1);
        say(x, 0, NEW, 1, 0, 0);
        say(x, 0, NEW, 2, 0, 0);
        x.statement(0, CALL, 3, 1, 1, 1, 0);
        x.statement(0, CALL, 4, 2, 1, 2, 0);
        say(x, 1, MOVE, 5, 1, 0);
        return x;
    }

    private static void points() {
        sentence("8 points");
        PointsToRounds x = twoReceivers();
        due("MODE 0 mixes", x.points(0, 0, 3), 3);
        due("MODE 0 mixes", x.points(1, 0, 5), 3);
        due("MODE 0 all together", x.points(1, -1, 0), 3);
        due("MODE 0 CONTEXT 1", x.points(1, 1, 5), -1);
        due("MODE 0 CONTEXT -2", x.points(1, -2, 5), -1);
        x.mode(1);
        due("MODE 1 first", x.points(0, 0, 3), 1);
        due("MODE 1 second", x.points(0, 0, 4), 2);
        due("CONTEXT 0", x.points(1, 0, 5), 0);
        due("CONTEXT 1", x.points(1, 1, 5), 1);
        due("CONTEXT 2", x.points(1, 2, 5), 2);
        due("RECEIVER in CONTEXT 2", x.points(1, 2, 0), 2);
        due("all together", x.points(1, -1, 5), 3);
        due("CONTEXT 3", x.points(1, 3, 5), -1);
        due("CONTEXT far", x.points(1, FAR, 5), -1);
        due("CONTEXT deep", x.points(1, DEEP, 5), -1);
        due("no METHOD", x.points(2, 0, 0), -1);
        due("METHOD -1", x.points(-1, 0, 0), -1);
        due("NAME 6", x.points(0, 0, 6), -1);
        due("NAME -1", x.points(0, 0, -1), -1);
    }

    private static void kindsOfSets() {
        sentence("8 points, KINDS");
        PointsToRounds x = family();
        say(x, 0, NEW, 1, 0, 0);
        say(x, 0, NEW, 1, 2, 0);
        say(x, 0, NEW, 1, 3, 0);
        say(x, 0, CAST, 2, 1, 1);
        say(x, 0, CAST, 3, 1, 0);
        due("CAST to 1", x.points(0, 0, 2), 2);
        due("CAST to 0", x.points(0, 0, 3), 3);
        say(x, 0, STORE, 1, 1, 1);
        due("STORE where the FIELD is", x.inField(1, 1), 7);
        due("STORE where it is not", x.inField(0, 1), 0);
        say(x, 0, LOAD, 4, 1, 1);
        due("LOAD", x.points(0, 0, 4), 7);
        say(x, 0, LOAD, 5, 1, 0);
        due("LOAD of what nobody stored", x.points(0, 0, 5), 0);
        say(x, 0, LAY, 2, 3, 0);
        due("LAY", x.element(1), 3);
        due("LAY into no other", x.element(0), 0);
        say(x, 0, TAKE, 5, 1, 0);
        due("TAKE", x.points(0, 0, 5), 3);
        say(x, 0, PUT, 3, 2, 0);
        say(x, 0, GET, 0, 3, 0);
        due("PUT", x.inStatic(3), 2);
        due("GET", x.points(0, 0, 0), 2);
    }

    private static void callSets() {
        sentence("8 points, CALL");
        PointsToRounds x = family();
        x.method(1, 1);
        say(x, 0, NEW, 3, 0, 0);
        say(x, 0, NEW, 3, 2, 0);
        say(x, 0, NEW, 4, 3, 0);
        x.statement(0, CALL, 0, 3, 1, 4, 3);
        say(x, 1, MOVE, 5, 2, 0);
        due("RECEIVER", x.points(1, 0, 0), 2);
        due("first given", x.points(1, 0, 1), 4);
        due("second given", x.points(1, 0, 2), 3);
        due("what comes back", x.points(0, 0, 0), 3);
        due("not REACHED before", x.reached(1), 1);
        say(x, 1, NEW, 3, 3, 0);
        due("only where REACHED", x.points(1, 0, 3), 8);
    }

    private static void inField() {
        sentence("9 inField");
        PointsToRounds x = family();
        due("no SITE", x.inField(0, 0), -1);
        say(x, 0, NEW, 3, 3, 0);
        say(x, 0, NEW, 4, 1, 0);
        say(x, 0, STORE, 3, 4, 0);
        say(x, 0, STORE, 4, 3, 0);
        due("SITE without it", x.inField(0, 0), 0);
        due("SITE with it", x.inField(1, 0), 1);
        due("another FIELD", x.inField(1, 1), 0);
        due("no FIELD", x.inField(0, 2), -1);
        due("FIELD -1", x.inField(0, -1), -1);
        due("no SITE", x.inField(2, 0), -1);
        due("SITE -1", x.inField(-1, 0), -1);
        x.field(3);
        due("a FIELD told later", x.inField(0, 2), 0);
    }

    private static void element() {
        sentence("10 element");
        PointsToRounds x = oneMethod();
        say(x, 0, NEW, 3, 0, 0);
        say(x, 0, NEW, 4, 0, 0);
        say(x, 0, LAY, 3, 4, 0);
        due("element(0)", x.element(0), 2);
        due("element(1)", x.element(1), 0);
        due("element(2)", x.element(2), -1);
        due("element(-1)", x.element(-1), -1);
    }

    private static void inStatic() {
        sentence("11 inStatic");
        PointsToRounds x = oneMethod();
        say(x, 0, NEW, 3, 0, 0);
        say(x, 0, PUT, 0, 3, 0);
        due("inStatic(0)", x.inStatic(0), 1);
        due("inStatic(1)", x.inStatic(1), 0);
        due("inStatic(3)", x.inStatic(3), 0);
        due("inStatic(4)", x.inStatic(4), -1);
        due("inStatic(-1)", x.inStatic(-1), -1);
    }

    private static void reached() {
        sentence("12 reached");
        PointsToRounds x = twoReceivers();
        x.method(0, 2);
        due("METHOD 0", x.reached(0), 1);
        due("MODE 0", x.reached(1), 1);
        due("never", x.reached(2), 0);
        x.mode(1);
        due("METHOD 0", x.reached(0), 1);
        due("MODE 1", x.reached(1), 2);
        x.statement(0, CALL, 0, 1, 0, 0, 0);
        due("METHOD 0 called too", x.reached(0), 2);
        due("no METHOD", x.reached(3), -1);
        due("METHOD -1", x.reached(-1), -1);
    }

    private static void may() {
        sentence("13 may");
        PointsToRounds x = family();
        x.method(0, 1);
        x.method(2, 1);
        say(x, 0, NEW, 3, 1, 0);
        say(x, 0, NEW, 3, 2, 0);
        say(x, 0, NEW, 3, 3, 0);
        x.statement(0, CALL, 4, 3, 1, 3, 3);
        say(x, 0, CAST, 5, 3, 1);
        say(x, 0, CAST, 5, 3, 0);
        say(x, 1, CAST, 5, 1, 2);
        x.statement(0, CALL, 4, 3, 2, 3, 3);
        for (int mode = 0; mode < 2; mode++) {
            x.mode(mode);
            due("CALL", x.may(3), 1 << 1 | 1 << 2);
            due("CAST to 1", x.may(4), 4);
            due("CAST to 0", x.may(5), 4);
            due("CAST in another METHOD", x.may(6), 5);
            due("CALL of a SIGNATURE nobody has", x.may(7), 0);
        }
        due("NEW", x.may(0), -3);
        due("no STATEMENT", x.may(8), -1);
        due("STATEMENT -1", x.may(-1), -1);
        for (int kind : new int[] {MOVE, LOAD, STORE, GET, PUT, TAKE, LAY}) {
            due("KIND " + kind, x.may(say(x, 0, kind, 0, 0, 0)), -3);
        }
        x.method(3, 3);
        say(x, 3, CAST, 5, 0, 0);
        due("CAST in no REACHED METHOD", x.may(15), 0);
    }

    private static void alias() {
        sentence("14 alias");
        PointsToRounds x = twoReceivers();
        due("MODE 0", x.alias(0, 3, 0, 4), 1);
        due("of two METHODS", x.alias(0, 1, 1, 0), 1);
        x.mode(1);
        due("MODE 1", x.alias(0, 3, 0, 4), 0);
        due("all CONTEXTS", x.alias(0, 4, 1, 5), 1);
        due("with itself", x.alias(0, 3, 0, 3), 1);
        due("empty with itself", x.alias(0, 0, 0, 0), 0);
        due("m1", x.alias(2, 0, 0, 0), -1);
        due("n1", x.alias(0, 6, 0, 0), -1);
        due("m2", x.alias(0, 0, -1, 0), -1);
        due("n2", x.alias(0, 0, 0, -1), -1);
    }

    private static void rounds() {
        sentence("15 rounds");
        PointsToRounds x = oneMethod();
        due("no STATEMENT", x.rounds(), 0);
        say(x, 0, MOVE, 2, 1, 0);
        due("nothing to move", x.rounds(), 0);
        say(x, 0, NEW, 1, 0, 0);
        due("NEW, MOVE", x.rounds(), 2);
        say(x, 0, MOVE, 3, 2, 0);
        say(x, 0, MOVE, 4, 3, 0);
        due("one MOVE a ROUND", x.rounds(), 4);
        x.method(0, 1);
        x.statement(0, CALL, 5, 4, 1, 0, 0);
        due("CALL", x.rounds(), 5);
        say(x, 1, MOVE, 5, 0, 0);
        due("and back", x.rounds(), 7);
        x.clear();
        due("nothing there", x.rounds(), 0);
    }

    private static void when() {
        sentence("16 when");
        PointsToRounds x = twoReceivers();
        due("NEW", x.when(0, 1, 0), 1);
        due("RECEIVER", x.when(1, 0, 0), 2);
        due("MOVE", x.when(1, 5, 1), 3);
        due("back", x.when(0, 4, 1), 4);
        due("back, MODE 0", x.when(0, 4, 0), 4);
        x.mode(1);
        due("back, MODE 1", x.when(0, 4, 0), -3);
        due("back, MODE 1", x.when(0, 4, 1), 4);
        say(x, 0, MOVE, 0, 1, 0);
        say(x, 0, MOVE, 5, 0, 0);
        x.statement(0, CALL, 0, 2, 1, 5, 5);
        due("later in another CONTEXT", x.points(1, 2, 1), 3);
        due("the earliest", x.when(1, 1, 0), 2);
        due("no METHOD", x.when(2, 0, 0), -1);
        due("METHOD -1", x.when(-1, 0, 0), -1);
        due("NAME 6", x.when(0, 6, 0), -1);
        due("NAME -1", x.when(0, -1, 0), -1);
        due("SITE 2", x.when(0, 0, 2), -1);
        due("SITE -1", x.when(0, 0, -1), -1);
    }

    private static void run() {
        sentence("17 run");
        PointsToRounds x = new PointsToRounds();
        due("-2 comes first", x.run(0, 301), -2);
        due("-2 comes first", x.run(0, -1), -2);
        due("no METHOD", x.run(0, 0), -3);
        x.cls(-1);
        due("no METHOD", x.run(0, 300), -3);
        x.method(0, 0);
        due("300", x.run(DEEP, 300), 1);
        due("0", x.run(FAR, 0), 1);
        due("FRAMES after 0 STEPS", x.ran(1), 1);
        say(x, 0, NEW, 0, 0, 0);
        due("NEW alone", x.run(1, 300), 1);
        due("objects", x.ran(0), 30);
        due("-2", x.run(1, DEEP), -2);
        due("objects still", x.ran(0), 30);
    }

    /** NAME 0 changes in a called FRAME; the FRAME stays in the CONTEXT of its CALL. */
    private static void runKeepsContext() {
        sentence("17 run, CONTEXT of a FRAME");
        PointsToRounds x = oneMethod();
        x.method(0, 1);
        x.mode(1);
        say(x, 0, NEW, 1, 0, 0);
        x.statement(0, CALL, 2, 1, 1, 1, 1);
        say(x, 1, NEW, 0, 0, 0);
        say(x, 1, NEW, 3, 0, 0);
        for (int seed = 0; seed < 20; seed++) {
            due("run(" + seed + ", 300)", x.run(seed, 300), 1);
        }
        due("NAME 0 was changed", x.met(1, 0), 3);
    }

    /** With one STATEMENT it is done where the draw is even; told STEP by STEP. */
    private static void steps() {
        sentence("17 run, STEPS");
        int z = 0;
        int[] halves = new int[6];
        for (int i = 0; i < 6; i++) {
            z = z * 1664525 + 1013904223;
            halves[i] = z >>> 1;
        }
        PointsToRounds x = oneMethod();
        say(x, 0, NEW, 1, 0, 0);
        int made = 0;
        for (int n = 0; n <= 6; n++) {
            x.run(0, n);
            due("objects after " + n, x.ran(0), made);
            due("met after " + n, x.met(0, 1), made > 0 ? 1 : 0);
            made += n < 6 && halves[n] % 2 == 0 ? 1 : 0;
        }
    }

    /** What a NAME of METHOD 0 met in any of many long RUNS. */
    private static int metInMany(PointsToRounds x, int name) {
        int met = 0;
        for (int seed = 0; seed < 30; seed++) {
            due("run", x.run(seed, 300), 1);
            met |= x.met(0, name);
        }
        return met;
    }

    private static void kindsOfRuns() {
        sentence("17 run, KINDS");
        PointsToRounds x = family();
        say(x, 0, NEW, 1, 2, 0);
        say(x, 0, NEW, 2, 3, 0);
        due("NEW", metInMany(x, 1), 1);
        say(x, 0, STORE, 1, 2, 1);
        say(x, 0, STORE, 2, 1, 0);
        say(x, 0, LOAD, 3, 1, 1);
        say(x, 0, LOAD, 4, 2, 0);
        due("STORE, LOAD", metInMany(x, 3), 2);
        due("STORE, LOAD where the FIELD is not", metInMany(x, 4), 0);
        say(x, 0, LAY, 2, 1, 0);
        say(x, 0, TAKE, 4, 2, 0);
        due("LAY, TAKE", metInMany(x, 4), 1);
        say(x, 0, PUT, 1, 4, 0);
        say(x, 0, GET, 5, 1, 0);
        due("PUT, GET", metInMany(x, 5), 1);
        say(x, 0, MOVE, 5, 2, 0);
        due("MOVE", metInMany(x, 5), 3);
        say(x, 0, CAST, 0, 5, 0);
        due("CAST", metInMany(x, 0), 1);
    }

    private static void callsOfRuns() {
        sentence("17 run, CALL");
        PointsToRounds x = family();
        x.method(0, 1);
        x.method(3, 1);
        say(x, 0, NEW, 1, 2, 0);
        say(x, 0, NEW, 2, 3, 0);
        x.statement(0, CALL, 3, 1, 1, 1, 2);
        x.statement(0, CALL, 4, 2, 1, 1, 2);
        say(x, 1, MOVE, 5, 2, 0);
        say(x, 2, MOVE, 5, 1, 0);
        due("the second given comes back", metInMany(x, 3), 2);
        due("the first given comes back", metInMany(x, 4), 1);
        due("RECEIVER of the first FRAME", metInMany(x, 0), 0);
        due("what is given does not come to the caller", metInMany(x, 5), 0);
    }

    private static void met() {
        sentence("18 met");
        PointsToRounds x = oneMethod();
        due("before any RUN", x.met(0, 0), 0);
        say(x, 0, NEW, 1, 0, 0);
        say(x, 0, NEW, 1, 0, 0);
        x.run(7, 0);
        due("after no STEP", x.met(0, 1), 0);
        x.run(7, 100);
        due("both SITES, one after the other", x.met(0, 1), 3);
        due("another NAME", x.met(0, 2), 0);
        due("no METHOD", x.met(1, 0), -1);
        due("METHOD -1", x.met(-1, 0), -1);
        due("NAME 6", x.met(0, 6), -1);
        due("NAME -1", x.met(0, -1), -1);
        x.run(7, 301);
        x.mode(2);
        x.cls(7);
        x.method(0, 0);
        due("a refusal changes nothing", x.met(0, 1), 3);
        x.rounds();
        due("nor does a look", x.met(0, 1), 3);
        x.run(7, 0);
        due("of the latest RUN alone", x.met(0, 1), 0);
    }

    private static void changesForgetRuns() {
        sentence("18 met, 19 ran: before any RUN since a change");
        for (int change = 0; change < 6; change++) {
            PointsToRounds x = oneMethod();
            say(x, 0, NEW, 1, 0, 0);
            x.run(7, 100);
            due("met", x.met(0, 1), 1);
            due("ran(0)", x.ran(0), 30);
            due("ran(1)", x.ran(1), 1);
            switch (change) {
                case 0 -> x.cls(-1);
                case 1 -> x.field(0);
                case 2 -> x.method(0, 3);
                case 3 -> say(x, 0, MOVE, 0, 0, 0);
                case 4 -> x.mode(0);
                default -> x.mode(1);
            }
            due("met after change " + change, x.met(0, 1), 0);
            due("ran(0) after change " + change, x.ran(0), 0);
            due("ran(1) after change " + change, x.ran(1), 0);
            due("ran(2) after change " + change, x.ran(2), 0);
        }
    }

    private static void ran() {
        sentence("19 ran");
        PointsToRounds x = oneMethod();
        due("ran(3)", x.ran(3), -2);
        due("ran(-1)", x.ran(-1), -2);
        say(x, 0, NEW, 1, 0, 0);
        x.statement(0, CALL, 2, 1, 0, 1, 1);
        x.statement(0, CALL, 2, 1, 0, 1, 1);
        x.statement(0, CALL, 2, 0, 0, 1, 1);
        x.statement(0, CALL, 2, 1, 1, 1, 1);
        int deepest = 0;
        int most = 0;
        for (int seed = 0; seed < 40; seed++) {
            due("run", x.run(seed, 300), 1);
            deepest = Math.max(deepest, x.ran(1));
            most = Math.max(most, x.ran(2));
        }
        due("FRAMES at most", deepest, 10);
        due("more CALLS than FRAMES", most > 10 ? 1 : 0, 1);
    }

    public static void main(String[] args) {
        newObject();
        cls();
        field();
        method();
        foundMethods();
        statement();
        statementRoom();
        mode();
        clear();
        points();
        kindsOfSets();
        callSets();
        inField();
        element();
        inStatic();
        reached();
        may();
        alias();
        rounds();
        when();
        run();
        runKeepsContext();
        steps();
        kindsOfRuns();
        callsOfRuns();
        met();
        changesForgetRuns();
        ran();
        end();
    }
}
