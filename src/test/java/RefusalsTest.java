import java.util.ArrayList;
import java.util.List;

/**
 * "REFUSALS change nothing and answer, the first that fits": each refusal of each call, where
 * nothing is there, where a little is there and where all places are taken, with both MODES. What an
 * object that refused a call answers to every question is held against one that never heard the call.
 */
public final class RefusalsTest extends Due {
    /** So many questions that one object, built and refused, stays within its 512 calls. */
    private static final int QUESTIONS_AT_ONCE = 400;

    private interface Call {
        int on(PointsToRounds x);
    }

    private record Told(String words, int answer, Call call) { }

    private interface Building {
        PointsToRounds build();
    }

    /** How much of everything is there. */
    private record Place(String name, Building building, int mode, int classes, int fields, int methods, int statements,
        int sites) {
        PointsToRounds make() {
            PointsToRounds x = building.build();
            x.mode(mode);
            if (methods > 0) {
                x.run(mode + 1, 300);
            }
            return x;
        }

        int contexts() {
            return mode == 0 ? 1 : 1 + sites;
        }
    }

    /** A RUN, and SETS that differ, so that what is lost or added can be seen. */
    private static PointsToRounds little() {
        PointsToRounds x = family();
        x.method(0, 1);
        x.method(2, 1);
        say(x, 0, NEW, 1, 1, 0);
        say(x, 0, NEW, 2, 2, 0);
        say(x, 0, NEW, 2, 3, 0);
        x.statement(0, CALL, 3, 1, 1, 2, 1);
        x.statement(0, CALL, 4, 2, 1, 1, 2);
        say(x, 0, STORE, 1, 2, 0);
        say(x, 0, LOAD, 5, 1, 0);
        say(x, 0, CAST, 5, 2, 1);
        say(x, 1, LAY, 0, 1, 0);
        say(x, 1, TAKE, 5, 0, 0);
        say(x, 2, PUT, 3, 1, 0);
        say(x, 2, GET, 5, 3, 0);
        say(x, 2, MOVE, 4, 5, 0);
        return x;
    }

    /** All SITES, and room for other STATEMENTS. */
    private static PointsToRounds allSites() {
        PointsToRounds x = oneMethod();
        for (int i = 0; i < 20; i++) {
            say(x, 0, NEW, i % 5, 0, 0);
        }
        return x;
    }

    private static List<Place> places() {
        List<Place> places = new ArrayList<>();
        for (int mode = 0; mode < 2; mode++) {
            places.add(new Place("nothing", PointsToRounds::new, mode, 0, 0, 0, 0, 0));
            places.add(new Place("one METHOD", Due::oneMethod, mode, 1, 0, 1, 0, 0));
            places.add(new Place("a little", RefusalsTest::little, mode, 4, 2, 3, 13, 3));
            places.add(new Place("all SITES", RefusalsTest::allSites, mode, 1, 0, 1, 20, 20));
            places.add(new Place("all", Due::full, mode, 8, 8, 10, 60, 20));
        }
        return places;
    }

    /** No number of n things: the first ones outside on both sides, and the farthest. */
    private static int[] outside(int n) {
        return new int[] {-1, n, FAR, DEEP};
    }

    private static void tellingCalls(Place at, List<Told> told) {
        for (int c : new int[] {-2, at.classes, FAR, DEEP}) {
            told.add(new Told("cls(" + c + ")", -1, x -> x.cls(c)));
        }
        for (int c : outside(at.classes)) {
            told.add(new Told("field(" + c + ")", -1, x -> x.field(c)));
            told.add(new Told("method(" + c + ", 0)", -1, x -> x.method(c, 0)));
            told.add(new Told("method(" + c + ", 4)", -1, x -> x.method(c, 4)));
        }
        for (int g : outside(4)) {
            for (int c = 0; c < at.classes; c++) {
                int cls = c;
                told.add(new Told("method(" + c + ", " + g + ")", -2, x -> x.method(cls, g)));
            }
        }
        for (int m : outside(2)) {
            told.add(new Told("mode(" + m + ")", -2, x -> x.mode(m)));
        }
        if (at.methods > 0) {
            told.add(new Told("method(0, 0)", -3, x -> x.method(0, 0)));
        }
        if (at.sites == 20) {
            told.add(new Told("a 21st SITE", -4, x -> x.statement(0, NEW, 0, 0, 0, 0, 0)));
        }
        if (at.classes == 8) {
            fullCalls(told);
        }
    }

    /** Of METHODS those of CLASSES 0, 1 and of SIGNATURES 0, 1 of CLASS 2 are there. */
    private static void fullCalls(List<Told> told) {
        for (int i = -1; i < 8; i++) {
            int c = i;
            told.add(new Told("a ninth: cls(" + c + ")", -4, x -> x.cls(c)));
        }
        for (int i = 0; i < 8; i++) {
            int c = i;
            told.add(new Told("a ninth: field(" + c + ")", -4, x -> x.field(c)));
        }
        for (int i = 0; i < 32; i++) {
            int c = i / 4;
            int g = i % 4;
            told.add(new Told("method(" + c + ", " + g + ")", i < 10 ? -3 : -4, x -> x.method(c, g)));
        }
        for (int kind = 0; kind < 10; kind++) {
            int k = kind;
            told.add(new Told("a 61st of KIND " + k, -4, x -> tell(x, 9, k, zeros(k))));
        }
    }

    private static int sizeOf(Place at, char shape) {
        return switch (shape) {
            case 'n' -> 6;
            case 'c' -> at.classes;
            case 'f' -> at.fields;
            default -> 4;
        };
    }

    private static void statements(Place at, List<Told> told) {
        for (int m : outside(at.methods)) {
            told.add(new Told("NEW in METHOD " + m, -1, x -> x.statement(m, NEW, 0, 0, 0, 0, 0)));
            told.add(new Told("KIND 10 in METHOD " + m, -1, x -> x.statement(m, 10, 6, 9, 9, 6, 6)));
        }
        for (int m = 0; m < at.methods; m++) {
            int method = m;
            for (int k : outside(10)) {
                told.add(new Told("KIND " + k, -2, x -> x.statement(method, k, 0, 0, 0, 0, 0)));
                told.add(new Told("KIND " + k + " of nothing", -2, x -> x.statement(method, k, 6, 9, 9, 6, 6)));
            }
        }
        for (int kind = 0; kind < 10 && at.methods > 0; kind++) {
            for (int place = 0; place < 5; place++) {
                wrongNumbers(at, kind, place, told);
            }
        }
    }

    /** Where a FIELD is asked for and none is there, -1 is due for that; the SIGNATURE comes last. */
    private static void wrongNumbers(Place at, int kind, int place, List<Told> told) {
        char shape = SHAPES[kind].charAt(place);
        if (shape == '.') {
            return;
        }
        for (int number : outside(sizeOf(at, shape))) {
            int[] n = with(zeros(kind), place, number);
            String words = "KIND " + kind + " with " + number + " as " + "pqrst".charAt(place);
            told.add(new Told(words, shape == 'g' ? -2 : -1, x -> tell(x, 0, kind, n)));
            if (kind == CALL && shape == 'n') {
                told.add(new Told(words + " and no SIGNATURE", -1, x -> tell(x, 0, kind, with(n, 2, 4))));
            }
        }
    }

    private static void setCalls(Place at, List<Told> told) {
        for (int m : outside(at.methods)) {
            told.add(new Told("points(" + m + ", 0, 0)", -1, x -> x.points(m, 0, 0)));
            told.add(new Told("points(" + m + ", -1, 0)", -1, x -> x.points(m, -1, 0)));
            told.add(new Told("reached(" + m + ")", -1, x -> x.reached(m)));
            told.add(new Told("alias(" + m + ", 0, 0, 0)", -1, x -> x.alias(m, 0, 0, 0)));
            told.add(new Told("alias(0, 0, " + m + ", 0)", -1, x -> x.alias(0, 0, m, 0)));
            told.add(new Told("when(" + m + ", 0, 0)", -1, x -> x.when(m, 0, 0)));
            told.add(new Told("met(" + m + ", 0)", -1, x -> x.met(m, 0)));
        }
        for (int n : outside(6)) {
            told.add(new Told("points(0, 0, " + n + ")", -1, x -> x.points(0, 0, n)));
            told.add(new Told("points(0, -1, " + n + ")", -1, x -> x.points(0, -1, n)));
            told.add(new Told("alias(0, " + n + ", 0, 0)", -1, x -> x.alias(0, n, 0, 0)));
            told.add(new Told("alias(0, 0, 0, " + n + ")", -1, x -> x.alias(0, 0, 0, n)));
            told.add(new Told("when(0, " + n + ", 0)", -1, x -> x.when(0, n, 0)));
            told.add(new Told("met(0, " + n + ")", -1, x -> x.met(0, n)));
        }
        for (int c : new int[] {-2, at.contexts(), FAR, DEEP}) {
            told.add(new Told("points(0, " + c + ", 0)", -1, x -> x.points(0, c, 0)));
        }
        for (int s : outside(at.sites)) {
            told.add(new Told("inField(" + s + ", 0)", -1, x -> x.inField(s, 0)));
            told.add(new Told("element(" + s + ")", -1, x -> x.element(s)));
            told.add(new Told("when(0, 0, " + s + ")", -1, x -> x.when(0, 0, s)));
        }
        for (int f : outside(at.fields)) {
            told.add(new Told("inField(0, " + f + ")", -1, x -> x.inField(0, f)));
        }
        for (int s : outside(4)) {
            told.add(new Told("inStatic(" + s + ")", -1, x -> x.inStatic(s)));
        }
        for (int s : outside(at.statements)) {
            told.add(new Told("may(" + s + ")", -1, x -> x.may(s)));
        }
        if (at.statements > 0) {
            told.add(new Told("may(0), a NEW", -3, x -> x.may(0)));
        }
        if (at.sites == 3) {
            told.add(new Told("when(2, 3, 0)", -3, x -> x.when(2, 3, 0)));
        }
    }

    private static void runCalls(Place at, List<Told> told) {
        for (int n : outside(301)) {
            told.add(new Told("run(1, " + n + ")", -2, x -> x.run(1, n)));
        }
        if (at.methods == 0) {
            told.add(new Told("run(1, 0)", -3, x -> x.run(1, 0)));
            told.add(new Told("run(1, 300)", -3, x -> x.run(1, 300)));
        }
        for (int what : outside(3)) {
            told.add(new Told("ran(" + what + ")", -2, x -> x.ran(what)));
        }
    }

    private static List<Told> refusals(Place at) {
        List<Told> told = new ArrayList<>();
        tellingCalls(at, told);
        statements(at, told);
        setCalls(at, told);
        runCalls(at, told);
        return told;
    }

    private static void nameQuestions(Place at, List<Call> calls) {
        for (int i = 0; i < at.methods * 6; i++) {
            int m = i / 6;
            int n = i % 6;
            calls.add(x -> x.met(m, n));
            calls.add(x -> x.alias(m, n, 0, 1));
            for (int context = -1; context <= at.contexts(); context++) {
                int c = context;
                calls.add(x -> x.points(m, c, n));
            }
            for (int site = 0; site < at.sites; site++) {
                int s = site;
                calls.add(x -> x.when(m, n, s));
            }
        }
    }

    /** Every question that can be asked without changing anything. */
    private static List<Call> questions(Place at) {
        List<Call> calls = new ArrayList<>();
        for (int i = 0; i < 4; i++) {
            int n = i;
            calls.add(x -> x.ran(n));
            calls.add(x -> x.inStatic(n));
        }
        calls.add(PointsToRounds::rounds);
        nameQuestions(at, calls);
        for (int i = 0; i <= at.methods; i++) {
            int m = i;
            calls.add(x -> x.reached(m));
        }
        for (int i = 0; i <= at.statements; i++) {
            int s = i;
            calls.add(x -> x.may(s));
        }
        for (int i = 0; i <= at.sites; i++) {
            int s = i;
            calls.add(x -> x.element(s));
            for (int field = 0; field <= at.fields; field++) {
                int f = field;
                calls.add(x -> x.inField(s, f));
            }
        }
        return calls;
    }

    /** What can only be seen by going on: numbers that come next, the MODE, what a RUN finds. */
    private static List<Call> goingOn(Place at) {
        return List.of(x -> x.run(5, 100), x -> x.ran(0), x -> x.ran(1), x -> x.ran(2), x -> x.met(0, 1),
            x -> x.mode(1 - at.mode), PointsToRounds::rounds, x -> x.cls(at.classes - 1), x -> x.field(0),
            x -> x.method(0, 3), x -> x.statement(0, NEW, 3, 0, 0, 0, 0), x -> x.statement(0, MOVE, 4, 3, 0, 0, 0),
            x -> x.points(0, 0, 4), PointsToRounds::rounds, PointsToRounds::clear, x -> x.cls(-1), x -> x.mode(0));
    }

    private static List<Integer> answers(Place at, List<Call> questions, Told refused) {
        List<Integer> answers = new ArrayList<>();
        for (int from = 0; from < questions.size(); from += QUESTIONS_AT_ONCE) {
            PointsToRounds x = afterRefusal(at, refused);
            for (Call call : questions.subList(from, Math.min(questions.size(), from + QUESTIONS_AT_ONCE))) {
                answers.add(call.on(x));
            }
        }
        PointsToRounds x = afterRefusal(at, refused);
        for (Call call : goingOn(at)) {
            answers.add(call.on(x));
        }
        return answers;
    }

    private static PointsToRounds afterRefusal(Place at, Told refused) {
        PointsToRounds x = at.make();
        if (refused != null) {
            due(at.name + ", MODE " + at.mode + ": " + refused.words, refused.call.on(x), refused.answer);
        }
        return x;
    }

    private static void holdsStill(Place at) {
        List<Call> questions = questions(at);
        List<Integer> before = answers(at, questions, null);
        for (Told refused : refusals(at)) {
            sentence("REFUSALS answer");
            List<Integer> after = answers(at, questions, refused);
            sentence("REFUSALS change nothing");
            String words = at.name + ", MODE " + at.mode + ": after " + refused.words + " question ";
            for (int i = 0; i < before.size(); i++) {
                due(words + i, after.get(i), before.get(i));
            }
        }
    }

    public static void main(String[] args) {
        for (Place at : places()) {
            holdsStill(at);
        }
        end();
    }
}
