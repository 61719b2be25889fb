/**
 * Sentence by sentence, promises 17 to 19: RUNS whose STEPS are known, as a seed is looked for that
 * chooses them. In these programs each METHOD has the same number of STATEMENTS, filled up with
 * MOVES of a NAME to itself, and a script tells which of them each STEP does.
 */
public final class RunsTest extends Dice {
    /** NAME 5 of METHOD 0 is where a test looks at what another NAME has. */
    private static final int SEEN = 5;

    /** Four STATEMENTS, so that a STEP chooses among five. */
    private static final int LENGTH = 4;
    private static final int GO = LENGTH;

    private static void fill(PointsToRounds x, int method, int has) {
        for (int i = has; i < LENGTH; i++) {
            say(x, method, MOVE, 3, 3, 0);
        }
    }

    private static void script(PointsToRounds x, int... choices) {
        due("run", x.run(seedFor(LENGTH, choices), choices.length), 1);
    }

    // ---- Promise 17: the call

    private static void stepsAreBounded() {
        sentence("17 -2 steps are not 0 .. 300");
        PointsToRounds x = oneMethod();
        for (int steps : new int[] {-1, 301, FAR, DEEP}) {
            due("run(1, " + steps + ")", x.run(1, steps), -2);
        }
        due("run(1, 0)", x.run(1, 0), 1);
        due("run(1, 300)", x.run(1, 300), 1);
        due("run(DEEP, 300)", x.run(DEEP, 300), 1);
        due("run(FAR, 300)", x.run(FAR, 300), 1);
    }

    private static void runNeedsAMethod() {
        sentence("17 -3 there is no METHOD; -2 comes first");
        PointsToRounds x = new PointsToRounds();
        due("nothing there", x.run(1, 0), -3);
        due("nothing there", x.run(1, 300), -3);
        due("both", x.run(1, 301), -2);
        due("both", x.run(1, -1), -2);
        x.cls(-1);
        x.field(0);
        due("a CLASS alone", x.run(1, 1), -3);
        x.method(0, 0);
        due("a METHOD", x.run(1, 1), 1);
        x.clear();
        due("after a clear", x.run(1, 1), -3);
    }

    private static void noStep() {
        sentence("17 a RUN of 0 STEPS");
        PointsToRounds x = oneMethod();
        say(x, 0, NEW, 0, 0, 0);
        due("run", x.run(1, 0), 1);
        due("objects", x.ran(0), 0);
        due("FRAMES", x.ran(1), 1);
        due("CALLS", x.ran(2), 0);
        due("met", x.met(0, 0), 0);
    }

    /** The only NEW among 60 STATEMENTS is chosen for the first time by the 300th STEP. */
    private static void threeHundredSteps() {
        sentence("17 so many STEPS: the 300th is done");
        PointsToRounds x = oneMethod();
        for (int i = 0; i < 59; i++) {
            say(x, 0, MOVE, 1, 1, 0);
        }
        say(x, 0, NEW, 1, 0, 0);
        int seed = seedForFirst(60, 59, 300);
        x.run(seed, 299);
        due("objects after 299", x.ran(0), 0);
        x.run(seed, 300);
        due("objects after 300", x.ran(0), 1);
        due("met after 300", x.met(0, 1), 1);
        seed = seedForFirst(60, 59, 1);
        x.run(seed, 0);
        due("objects after 0", x.ran(0), 0);
        x.run(seed, 1);
        due("objects after 1", x.ran(0), 1);
    }

    // ---- the dice

    /** Each of n STATEMENTS makes an object into NAME 0 .. 5, told apart by their SITES. */
    private static void diceOfEachLength() {
        sentence("17 z * 1664525 + 1013904223 (wrapping); moved right by 1, modulo n + 1");
        for (int n = 0; n <= 20; n++) {
            PointsToRounds x = oneMethod();
            for (int i = 0; i < n; i++) {
                say(x, 0, NEW, i % 6, 0, 0);
            }
            for (int seed : new int[] {0, 1, -1, FAR, DEEP, 1013904223, -1013904223, 0x40000000, -0x40000000}) {
                int[] met = new int[6];
                int made = 0;
                Draws draws = new Draws(seed);
                for (int step = 0; step < 29; step++) {
                    int t = draws.next(n);
                    if (t < n) {
                        met[t % 6] |= 1 << t;
                        made++;
                    }
                }
                due("run", x.run(seed, 29), 1);
                due("objects of " + n + " STATEMENTS by seed " + seed, x.ran(0), made);
                for (int name = 0; name < 6; name++) {
                    due("met by NAME " + name + " by seed " + seed, x.met(0, name), met[name]);
                }
            }
        }
    }

    private static void lastStatementIsChosen() {
        sentence("17 with t below n the t-th of these (from 0) is done");
        PointsToRounds x = oneMethod();
        for (int i = 0; i < LENGTH; i++) {
            say(x, 0, NEW, i, 0, 0);
        }
        for (int t = 0; t <= LENGTH; t++) {
            script(x, t);
            for (int i = 0; i < LENGTH; i++) {
                due("NAME " + i + " after choice " + t, x.met(0, i), i == t ? 1 << t : 0);
            }
            due("objects", x.ran(0), t < LENGTH ? 1 : 0);
        }
    }

    /** The STATEMENTS of two METHODS come in turn; each METHOD has its own order of them. */
    private static void orderOfTheTopMethod() {
        sentence("17 n being how many STATEMENTS the top FRAME's METHOD has");
        PointsToRounds x = oneMethod();
        x.method(0, 1);
        say(x, 1, NEW, 3, 0, 0);
        say(x, 0, NEW, 1, 0, 0);
        say(x, 1, NEW, 4, 0, 0);
        x.statement(0, CALL, 2, 1, 1, 1, 1);
        say(x, 1, NEW, 5, 0, 0);
        fill(x, 1, 3);
        fill(x, 0, 2);
        script(x, 0, 1, 2);
        due("METHOD 0's first", x.met(0, 1), 1 << 1);
        due("METHOD 1's third", x.met(1, 5), 1 << 3);
        due("not its first", x.met(1, 3), 0);
        script(x, 0, 1, 0, 1);
        due("METHOD 1's first", x.met(1, 3), 1 << 0);
        due("METHOD 1's second", x.met(1, 4), 1 << 2);
        due("not its third", x.met(1, 5), 0);
    }

    private static void methodWithoutStatements() {
        sentence("17 n may be 0: then the FRAME goes");
        PointsToRounds x = oneMethod();
        due("the only FRAME", x.run(5, 300), 1);
        due("stays", x.ran(1), 1);
        x.method(0, 1);
        say(x, 0, NEW, 1, 0, 0);
        x.statement(0, CALL, 1, 1, 1, 1, 1);
        say(x, 0, MOVE, SEEN, 1, 0);
        fill(x, 0, 3);
        int seed = seedFor(LENGTH, 0, 1);
        x.run(seed, 2);
        due("FRAMES after the CALL", x.ran(1), 2);
        x.run(seed, 3);
        due("FRAMES after it goes", x.ran(1), 1);
        due("CALLS", x.ran(2), 1);
    }

    // ---- objects and FRAMES

    /** 19 SITES into NAME 1, the 20th into NAME 2: is it, chosen for the first time, the nth NEW? */
    private static void thirtyObjects() {
        sentence("17 objects (30 at most)");
        PointsToRounds x = oneMethod();
        for (int i = 0; i < 19; i++) {
            say(x, 0, NEW, 1, 0, 0);
        }
        say(x, 0, NEW, 2, 0, 0);
        int seed = seedForFirstNew(29);
        x.run(seed, stepOfFirst(seed, 20, 19));
        due("objects", x.ran(0), 29);
        due("the 29th is made", x.met(0, 2), 1 << 19);
        seed = seedForFirstNew(30);
        x.run(seed, stepOfFirst(seed, 20, 19));
        due("objects", x.ran(0), 30);
        due("the 30th is made", x.met(0, 2), 1 << 19);
        seed = seedForFirstNew(31);
        x.run(seed, stepOfFirst(seed, 20, 19));
        due("objects", x.ran(0), 30);
        due("a 31st is not", x.met(0, 2), 0);
        x.run(seed, 300);
        due("objects after 300 STEPS", x.ran(0), 30);
        due("nor a later one", x.met(0, 2), 0);
    }

    /** Of STEPS that choose among 20 NEWS and none: the place of this choice among the NEWS. */
    private static int placeOfFirst(int seed, int choice) {
        Draws draws = new Draws(seed);
        int made = 0;
        for (int step = 0; step < 300; step++) {
            int t = draws.next(20);
            made += t < 20 ? 1 : 0;
            if (t == choice) {
                return made;
            }
        }
        return -1;
    }

    private static int seedForFirstNew(int place) {
        for (int seed = 0; seed < 10_000_000; seed++) {
            if (placeOfFirst(seed, 19) == place) {
                return seed;
            }
        }
        throw new IllegalStateException("no seed for place " + place);
    }

    /** After 30 objects a NEW leaves NAME p as it was, and not none. */
    private static void newWithThirtyObjects() {
        sentence("17 NEW with 30 objects does nothing");
        PointsToRounds x = oneMethod();
        say(x, 0, NEW, 1, 0, 0);
        say(x, 0, NEW, 1, 0, 0);
        say(x, 0, MOVE, 2, 1, 0);
        fill(x, 0, 3);
        int seed = seedWhereTheLastNewCounts();
        x.run(seed, 300);
        due("objects", x.ran(0), 30);
        due("NAME 1 was the first SITE's at first", x.met(0, 1), 3);
        due("NAME 2 was looked at only after the 31st NEW", x.met(0, 2), 1);
    }

    /**
     * A seed by which the 30th NEW is of SITE 0, later ones are all of SITE 1 at first, and the MOVE
     * comes for the first time after one of these.
     */
    private static int seedWhereTheLastNewCounts() {
        for (int seed = 0; seed < 50_000_000; seed++) {
            Draws draws = new Draws(seed);
            int made = 0;
            int last = -1;
            boolean refused = false;
            for (int step = 0; step < 300; step++) {
                int t = draws.next(LENGTH);
                if (t == 2) {
                    if (refused && last == 0) {
                        return seed;
                    }
                    break;
                }
                if (t < 2 && made < 30) {
                    made++;
                    last = t;
                } else if (t == 1) {
                    refused = true;
                }
            }
        }
        throw new IllegalStateException("no seed");
    }

    private static void tenFrames() {
        sentence("17 a pile of at most 10 FRAMES; CALL with 10 FRAMES does nothing");
        PointsToRounds x = oneMethod();
        say(x, 0, NEW, 1, 0, 0);
        x.statement(0, CALL, 2, 1, 0, 1, 1);
        int[] choices = {0, 1, 1, 1, 1, 1, 1, 1, 1, 1, 1, 2};
        int seed = seedFor(2, choices);
        for (int steps = 1; steps <= 12; steps++) {
            due("run", x.run(seed, steps), 1);
            due("FRAMES after " + steps, x.ran(1), steps == 12 ? 9 : Math.min(10, steps));
            due("CALLS after " + steps, x.ran(2), Math.min(9, steps - 1));
        }
    }

    private static void theOnlyFrameStays() {
        sentence("17 With t = n the FRAME goes, if it is not the only one");
        PointsToRounds x = oneMethod();
        say(x, 0, NEW, 1, 0, 0);
        x.statement(0, CALL, 2, 1, 0, 1, 1);
        say(x, 0, MOVE, SEEN, 1, 0);
        fill(x, 0, 3);
        script(x, GO);
        due("FRAMES", x.ran(1), 1);
        script(x, 0, GO, GO, 2);
        due("FRAMES", x.ran(1), 1);
        due("its NAMES stay", x.met(0, SEEN), 1);
        script(x, 0, 1, GO);
        due("FRAMES after it went", x.ran(1), 1);
        script(x, 0, 1, 1, GO);
        due("FRAMES after one went", x.ran(1), 2);
        script(x, 0, 1, GO, GO, 1);
        due("FRAMES after it went and came", x.ran(1), 2);
        due("CALLS", x.ran(2), 2);
    }

    // ---- CALL

    /** METHOD 0: NEW 1, CALL 2 on 1, MOVE SEEN 2; METHOD 1: what the test tells. */
    private static PointsToRounds caller() {
        PointsToRounds x = oneMethod();
        x.method(0, 1);
        say(x, 0, NEW, 1, 0, 0);
        x.statement(0, CALL, 2, 1, 1, 1, 4);
        say(x, 0, MOVE, SEEN, 2, 0);
        say(x, 0, NEW, 2, 0, 0);
        return x;
    }

    private static void namesOfACalledFrame() {
        sentence("17 CALL: with q as RECEIVER, s and t given; the other NAMES none");
        PointsToRounds x = oneMethod();
        x.method(0, 1);
        say(x, 0, NEW, 1, 0, 0);
        say(x, 0, NEW, 2, 0, 0);
        say(x, 0, NEW, 3, 0, 0);
        x.statement(0, CALL, 4, 1, 1, 2, 3);
        fill(x, 1, 0);
        script(x, 0, 1, 2, 3);
        int[] due = {1, 2, 4, 0, 0, 0};
        for (int name = 0; name < 6; name++) {
            due("NAME " + name, x.met(1, name), due[name]);
        }
        script(x, 0, 3);
        due("RECEIVER alone", x.met(1, 0), 1);
        due("s is none", x.met(1, 1), 0);
        due("t is none", x.met(1, 2), 0);
        due("a CALL with none given is one", x.ran(2), 1);
    }

    /** A second FRAME of the METHOD lies where the first one lay. */
    private static void namesAreNoneAtFirst() {
        sentence("17 FRAMES, with their NAMES (none at first)");
        PointsToRounds x = caller();
        say(x, 1, NEW, 3, 0, 0);
        say(x, 1, MOVE, 5, 3, 0);
        fill(x, 1, 2);
        script(x, 0, 1, 0, GO, 1, 1);
        due("NAME 3 of the first", x.met(1, 3), 1 << 2);
        due("NAME 5 of the second", x.met(1, 5), 0);
        script(x, 0, 1, 0, 1, GO, 2);
        due("given back", x.met(0, SEEN), 1 << 2);
    }

    private static void receiverOfTheFirstIsNone() {
        sentence("17 at first METHOD 0's alone, its RECEIVER none");
        PointsToRounds x = oneMethod();
        x.statement(0, CALL, 1, 0, 0, 0, 0);
        say(x, 0, MOVE, SEEN, 0, 0);
        say(x, 0, NEW, 0, 0, 0);
        fill(x, 0, 3);
        script(x, 0, 1);
        due("CALL on it", x.ran(2), 0);
        due("FRAMES", x.ran(1), 1);
        due("MOVE of it", x.met(0, SEEN), 0);
        script(x, 2, 0);
        due("CALL once it is there", x.ran(2), 1);
    }

    private static void callWithoutReceiver() {
        sentence("17 CALL without a RECEIVER does nothing");
        PointsToRounds x = caller();
        fill(x, 1, 0);
        script(x, 3, 1, 2);
        due("CALLS", x.ran(2), 0);
        due("FRAMES", x.ran(1), 1);
        due("p stays", x.met(0, SEEN), 1 << 1);
    }

    private static void callWithoutMethodFound() {
        sentence("17 CALL without METHOD FOUND does nothing");
        PointsToRounds x = family();
        x.method(2, 1);
        say(x, 0, NEW, 1, 1, 0);
        x.statement(0, CALL, 1, 1, 1, 1, 1);
        say(x, 0, MOVE, SEEN, 1, 0);
        fill(x, 0, 3);
        script(x, 0, 1, 2);
        due("CALLS", x.ran(2), 0);
        due("FRAMES", x.ran(1), 1);
        due("p stays", x.met(0, SEEN), 1);
    }

    private static void methodFoundByTheObject() {
        sentence("17 the METHOD FOUND for the CLASS of q");
        PointsToRounds x = family();
        x.method(0, 1);
        x.method(2, 1);
        say(x, 0, NEW, 1, 1, 0);
        say(x, 0, NEW, 1, 2, 0);
        x.statement(0, CALL, 2, 1, 1, 1, 1);
        fill(x, 0, 3);
        fill(x, 1, 0);
        fill(x, 2, 0);
        script(x, 0, 2);
        due("the PARENT's", x.met(1, 0), 1);
        due("not the child's", x.met(2, 0), 0);
        script(x, 1, 2);
        due("its own", x.met(2, 0), 2);
        due("not the PARENT's", x.met(1, 0), 0);
    }

    private static void whatIsGivenBack() {
        sentence("17 the NAME p of its CALL becomes what its NAME 5 is");
        PointsToRounds x = caller();
        say(x, 1, NEW, 5, 0, 0);
        fill(x, 1, 1);
        script(x, 0, 1, 0, GO, 2);
        due("an object", x.met(0, SEEN), 1 << 2);
        script(x, 3, 0, 1, GO, 2);
        due("none", x.met(0, SEEN), 0);
        script(x, 3, 0, 1, 0);
        due("not before the FRAME goes", x.met(0, 2), 1 << 1);
    }

    private static void whatIsGivenBackLowInThePile() {
        sentence("17 p of its own CALL, in the FRAME below");
        PointsToRounds x = oneMethod();
        x.method(0, 1);
        say(x, 0, NEW, 1, 0, 0);
        x.statement(0, CALL, 2, 1, 1, 1, 1);
        fill(x, 0, 2);
        x.statement(1, CALL, 4, 0, 1, 0, 0);
        say(x, 1, NEW, 5, 0, 0);
        fill(x, 1, 2);
        script(x, 0, 1, 0, 1, GO);
        due("NAME 4 of METHOD 1", x.met(1, 4), 1 << 1);
        due("NAME 2 of METHOD 1 is what was given", x.met(1, 2), 1);
        due("METHOD 0 has nothing of it", x.met(0, 2), 0);
        script(x, 0, 1, 0, 1, GO, GO);
        due("the lower FRAME gives its own NAME 5", x.met(0, 2), 0);
        due("FRAMES", x.ran(1), 1);
    }

    // ---- none

    /** METHOD 0: NEW 1, the STATEMENT (on NAME 2 as none), MOVE SEEN 1, and one more. */
    private static PointsToRounds onNone(int kind, int p, int q, int r) {
        PointsToRounds x = family();
        say(x, 0, NEW, 1, 0, 0);
        say(x, 0, kind, p, q, r);
        say(x, 0, MOVE, SEEN, 1, 0);
        fill(x, 0, 3);
        return x;
    }

    private static void ofNoneMakesNone(String words, int kind, int q) {
        sentence("17 " + words + " of none makes it none");
        PointsToRounds x = onNone(kind, 1, q, 0);
        script(x, 0, 2);
        due("before", x.met(0, SEEN), 1);
        script(x, 0, 1, 2);
        due("after", x.met(0, SEEN), 0);
        due("it was there", x.met(0, 1), 1);
    }

    private static void ofNoneDoesNothing(String words, int kind) {
        sentence("17 " + words + " of none does nothing");
        PointsToRounds x = onNone(kind, 1, 2, 0);
        script(x, 0, 1, 2);
        due("p stays", x.met(0, SEEN), 1);
    }

    private static void putOfNone() {
        sentence("17 PUT of none makes it none");
        PointsToRounds x = oneMethod();
        say(x, 0, NEW, 1, 0, 0);
        say(x, 0, PUT, 3, 1, 0);
        say(x, 0, PUT, 3, 2, 0);
        say(x, 0, GET, SEEN, 3, 0);
        script(x, 0, 1, 3);
        due("before", x.met(0, SEEN), 1);
        script(x, 0, 1, 2, 3);
        due("after", x.met(0, SEEN), 0);
        script(x, 3);
        due("STATICS are none when a RUN begins", x.met(0, SEEN), 0);
    }

    /** The owner is NAME 1's object, stored into itself; then NAME 2, none, is stored. */
    private static void storeOfNone(String words, int write, int read) {
        sentence("17 " + words);
        PointsToRounds x = family();
        say(x, 0, NEW, 1, 0, 0);
        say(x, 0, write, 1, 1, 0);
        say(x, 0, write, 1, 2, 0);
        say(x, 0, read, SEEN, 1, 0);
        script(x, 0, 1, 3);
        due("before", x.met(0, SEEN), 1);
        script(x, 0, 1, 2, 3);
        due("after", x.met(0, SEEN), 0);
        script(x, 0, 1, 0, 3);
        due("of another object of the SITE", x.met(0, SEEN), 0);
        script(x, 0, 3);
        due("none when a RUN begins", x.met(0, SEEN), 0);
    }

    private static void readWhereItIsNone(String words, int read) {
        sentence("17 " + words + " is none makes it none");
        PointsToRounds x = onNone(read, 1, 1, 0);
        script(x, 0, 1, 2);
        due("p", x.met(0, SEEN), 0);
        due("it was there", x.met(0, 1), 1);
    }

    /** Into none: were it to go anywhere, the object of NAME 1, the first one, would show it. */
    private static void writeIntoNone(String words, int write, int read) {
        sentence("17 " + words + " into none does nothing");
        PointsToRounds x = family();
        say(x, 0, NEW, 1, 0, 0);
        say(x, 0, write, 2, 1, 0);
        say(x, 0, read, SEEN, 1, 0);
        fill(x, 0, 3);
        script(x, 0, 1, 2);
        due("the first object", x.met(0, SEEN), 0);
    }

    private static void castThatFails() {
        sentence("17 a CAST that fails does nothing");
        PointsToRounds x = family();
        say(x, 0, NEW, 1, 0, 0);
        say(x, 0, NEW, 2, 1, 0);
        say(x, 0, CAST, 2, 1, 1);
        say(x, 0, MOVE, SEEN, 2, 0);
        script(x, 0, 1, 2, 3);
        due("p stays", x.met(0, SEEN), 2);
        due("nothing came to p", x.met(0, 2), 2);
        script(x, 0, 2, 3);
        due("none stays", x.met(0, SEEN), 0);
    }

    private static void castThatFits() {
        sentence("17 CAST: p is q, if its CLASS is UNDER CLASS r");
        for (int r = 0; r < 4; r++) {
            PointsToRounds x = family();
            say(x, 0, NEW, 1, 1, 0);
            say(x, 0, CAST, SEEN, 1, r);
            fill(x, 0, 2);
            script(x, 0, 1);
            due("CLASS 1 to CLASS " + r, x.met(0, SEEN), r <= 1 ? 1 : 0);
        }
    }

    /** FIELD 1 is of CLASS 1; the object is of its PARENT, of a child, of another CLASS. */
    private static void fieldThatIsNotThere() {
        sentence("17 LOAD and STORE of others do nothing");
        for (int c = 0; c < 4; c++) {
            boolean has = c == 1 || c == 2;
            PointsToRounds x = family();
            say(x, 0, NEW, 1, c, 0);
            say(x, 0, STORE, 1, 1, 1);
            say(x, 0, LOAD, 2, 1, 1);
            say(x, 0, NEW, 2, 0, 0);
            script(x, 0, 1, 2);
            due("STORE, LOAD of CLASS " + c, x.met(0, 2), has ? 1 : 0);
            PointsToRounds y = family();
            say(y, 0, NEW, 1, c, 0);
            say(y, 0, NEW, 2, 0, 0);
            say(y, 0, LOAD, 2, 1, 1);
            say(y, 0, MOVE, SEEN, 2, 0);
            script(y, 0, 1, 2, 3);
            due("LOAD leaves p with CLASS " + c, y.met(0, SEEN), has ? 0 : 2);
        }
    }

    private static void ordinaryKinds() {
        sentence("17 MOVE, PUT, GET, LAY, TAKE, STORE, LOAD as told");
        PointsToRounds x = family();
        say(x, 0, NEW, 1, 3, 0);
        say(x, 0, LAY, 1, 1, 0);
        say(x, 0, TAKE, 2, 1, 0);
        say(x, 0, MOVE, 3, 2, 0);
        script(x, 0, 1, 2, 3);
        due("TAKE", x.met(0, 2), 1);
        due("MOVE", x.met(0, 3), 1);
        due("q stays", x.met(0, 1), 1);
        for (int s = 0; s < 4; s++) {
            PointsToRounds y = oneMethod();
            say(y, 0, NEW, 1, 0, 0);
            say(y, 0, PUT, s, 1, 0);
            say(y, 0, GET, 2, s, 0);
            say(y, 0, GET, 3, (s + 1) % 4, 0);
            script(y, 0, 1, 2, 3);
            due("GET " + s, y.met(0, 2), 1);
            due("GET of another", y.met(0, 3), 0);
        }
    }

    /** What is loaded or taken, and where from, stay as they are. */
    private static void readingChangesNothing(String words, int write, int read) {
        sentence("17 " + words + " changes p alone");
        PointsToRounds x = family();
        say(x, 0, NEW, 1, 0, 0);
        say(x, 0, NEW, 2, 0, 0);
        say(x, 0, write, 1, 2, 0);
        say(x, 0, read, 3, 1, 0);
        say(x, 0, read, 4, 2, 0);
        say(x, 0, MOVE, SEEN, 2, 0);
        int[] choices = {0, 1, 2, 3, 4, 5, 3};
        due("run", x.run(seedFor(6, choices), choices.length), 1);
        due("p", x.met(0, 3), 2);
        due("of what was read", x.met(0, 4), 0);
        due("where it was written from", x.met(0, SEEN), 2);
    }

    /** Two FIELDS and the ELEMENT of one object are three places. */
    private static void placesOfAnObject() {
        sentence("17 each FIELD and the ELEMENT for itself");
        int[] kinds = {STORE, STORE, LAY};
        int[] reads = {LOAD, LOAD, TAKE};
        for (int i = 0; i < 9; i++) {
            int w = i / 3;
            int r = i % 3;
            PointsToRounds x = family();
            say(x, 0, NEW, 1, 2, 0);
            say(x, 0, kinds[w], 1, 1, w % 2);
            say(x, 0, reads[r], 2, 1, r % 2);
            fill(x, 0, 3);
            script(x, 0, 1, 2);
            due("written " + w + ", read " + r, x.met(0, 2), w == r ? 1 : 0);
        }
    }

    private static void noneOfAll() {
        ofNoneMakesNone("MOVE", MOVE, 2);
        ofNoneMakesNone("CAST", CAST, 2);
        ofNoneMakesNone("GET", GET, 2);
        ofNoneDoesNothing("LOAD", LOAD);
        ofNoneDoesNothing("TAKE", TAKE);
        putOfNone();
        storeOfNone("STORE of none makes it none", STORE, LOAD);
        storeOfNone("LAY of none makes it none", LAY, TAKE);
        readWhereItIsNone("LOAD where the FIELD", LOAD);
        readWhereItIsNone("TAKE where the ELEMENT", TAKE);
        writeIntoNone("STORE", STORE, LOAD);
        writeIntoNone("LAY", LAY, TAKE);
    }

    // ---- HOLDS

    /** NAME 0 of a called FRAME is changed, and made none: its CONTEXT is that of its CALL. */
    private static void contextOfAFrame() {
        sentence("17 It HOLDS: in the CONTEXT of the FRAME");
        PointsToRounds x = oneMethod();
        x.method(0, 1);
        say(x, 0, NEW, 1, 0, 0);
        x.statement(0, CALL, 2, 1, 1, 1, 1);
        fill(x, 0, 2);
        say(x, 1, NEW, 0, 0, 0);
        say(x, 1, MOVE, 0, 5, 0);
        say(x, 1, NEW, 4, 0, 0);
        fill(x, 1, 3);
        for (int mode = 0; mode < 2; mode++) {
            x.mode(mode);
            script(x, 0, 1, 0, 2);
            due("NAME 0", x.met(1, 0), 3);
            script(x, 0, 1, 1, 2);
            due("NAME 4", x.met(1, 4), 4);
        }
    }

    private static void allProgramsHold() {
        sentence("17 1 it HOLDS");
        PointsToRounds x = full();
        for (int mode = 0; mode < 2; mode++) {
            x.mode(mode);
            for (int seed = 0; seed < 50; seed++) {
                due("run(" + seed + ", 300) in MODE " + mode, x.run(seed * 7919, 300), 1);
            }
        }
    }

    private static void runsDoNotChangeSets() {
        sentence("17 a RUN changes no SET");
        PointsToRounds x = caller();
        say(x, 1, NEW, 5, 0, 0);
        int before = x.points(0, 0, 2);
        int rounds = x.rounds();
        x.run(1, 300);
        due("points", x.points(0, 0, 2), before);
        due("rounds", x.rounds(), rounds);
        due("a RUN by the same seed is the same", sameTwice(x), 1);
    }

    private static int sameTwice(PointsToRounds x) {
        int[] first = new int[3];
        for (int what = 0; what < 3; what++) {
            first[what] = x.ran(what);
        }
        x.run(2, 300);
        x.run(1, 300);
        int same = 1;
        for (int what = 0; what < 3; what++) {
            same &= x.ran(what) == first[what] ? 1 : 0;
        }
        return same;
    }

    // ---- Promise 18

    private static void metAfterSomeStep() {
        sentence("18 Which SITES a NAME had in the latest RUN, after some STEP");
        PointsToRounds x = oneMethod();
        say(x, 0, NEW, 1, 0, 0);
        say(x, 0, NEW, 1, 0, 0);
        say(x, 0, MOVE, 1, 2, 0);
        fill(x, 0, 3);
        due("before any RUN", x.met(0, 1), 0);
        script(x, 0, 1, 2);
        due("both, though it is none at the end", x.met(0, 1), 3);
        script(x, 1);
        due("of the latest RUN alone", x.met(0, 1), 2);
        x.run(1, 0);
        due("after a RUN of 0 STEPS", x.met(0, 1), 0);
    }

    private static void metOfEachMethod() {
        sentence("18 a NAME of a METHOD, in the top FRAME");
        PointsToRounds x = caller();
        say(x, 1, NEW, 1, 0, 0);
        fill(x, 1, 1);
        script(x, 0, 1, 0);
        due("NAME 1 of METHOD 0", x.met(0, 1), 1);
        due("NAME 1 of METHOD 1", x.met(1, 1), 1 | 1 << 2);
        due("RECEIVER of METHOD 0", x.met(0, 0), 0);
        due("RECEIVER of METHOD 1", x.met(1, 0), 1);
    }

    private static void boundsOfMet() {
        sentence("18 met -1");
        PointsToRounds x = full();
        x.run(1, 300);
        for (int m : new int[] {-1, 10, FAR, DEEP}) {
            due("METHOD " + m, x.met(m, 0), -1);
        }
        for (int n : new int[] {-1, 6, FAR, DEEP}) {
            due("NAME " + n, x.met(0, n), -1);
        }
        due("the last", Math.min(0, x.met(9, 5)), 0);
        due("the first", Math.min(0, x.met(0, 0)), 0);
        due("the last SITE's bit", lastSiteMet(), 1 << 19);
    }

    private static int lastSiteMet() {
        PointsToRounds x = oneMethod();
        for (int i = 0; i < 20; i++) {
            say(x, 0, NEW, i < 19 ? 1 : 2, 0, 0);
        }
        x.run(seedFor(20, 19), 1);
        return x.met(0, 2);
    }

    // ---- Promise 19

    private static void boundsOfRan() {
        sentence("19 what = 0, 1, 2; -2");
        PointsToRounds x = oneMethod();
        for (int round = 0; round < 2; round++) {
            for (int what : new int[] {-1, 3, FAR, DEEP}) {
                due("ran(" + what + ")", x.ran(what), -2);
            }
            x.run(1, 1);
        }
    }

    private static void ranOfTheLatest() {
        sentence("19 Of the latest RUN: objects made, FRAMES at the end, CALLS that came to a METHOD");
        PointsToRounds x = caller();
        fill(x, 1, 0);
        script(x, 0, 3, 1, GO, 1);
        due("objects", x.ran(0), 2);
        due("FRAMES at the end", x.ran(1), 2);
        due("CALLS", x.ran(2), 2);
        script(x, 1);
        due("objects", x.ran(0), 0);
        due("FRAMES at the end", x.ran(1), 1);
        due("CALLS that came to none", x.ran(2), 0);
    }

    // ---- since the program was changed

    private interface Change {
        int on(PointsToRounds x);
    }

    private static void forgetsBy(String words, int answer, boolean forgets, Change change) {
        sentence("18, 19 0 before any RUN since the program was changed, or MODE told");
        PointsToRounds x = caller();
        fill(x, 1, 0);
        script(x, 0, 1);
        due(words, change.on(x), answer);
        due("met after " + words, x.met(0, 1), forgets ? 0 : 1);
        due("ran(0) after " + words, x.ran(0), forgets ? 0 : 1);
        due("ran(1) after " + words, x.ran(1), forgets ? 0 : 2);
        due("ran(2) after " + words, x.ran(2), forgets ? 0 : 1);
        x.run(1, 0);
        due("a RUN after " + words, x.ran(1), 1);
    }

    private static void whatForgetsTheRun() {
        forgetsBy("cls", 1, true, x -> x.cls(-1));
        forgetsBy("field", 0, true, x -> x.field(0));
        forgetsBy("method", 2, true, x -> x.method(0, 2));
        forgetsBy("statement", 8, true, x -> x.statement(1, MOVE, 0, 0, 0, 0, 0));
        forgetsBy("another MODE", 0, true, x -> x.mode(1));
        forgetsBy("the same MODE", 0, true, x -> x.mode(0));
        forgetsBy("a refused cls", -1, false, x -> x.cls(1));
        forgetsBy("a refused field", -1, false, x -> x.field(1));
        forgetsBy("a refused method", -3, false, x -> x.method(0, 0));
        forgetsBy("a refused statement", -1, false, x -> x.statement(1, MOVE, 0, 6, 0, 0, 0));
        forgetsBy("a refused mode", -2, false, x -> x.mode(2));
        forgetsBy("a refused run", -2, false, x -> x.run(1, 301));
        forgetsBy("rounds", 2, false, PointsToRounds::rounds);
    }

    private static void clearForgetsTheRun() {
        sentence("18, 19 0 after a clear");
        PointsToRounds x = caller();
        fill(x, 1, 0);
        script(x, 0, 1);
        x.clear();
        for (int what = 0; what < 3; what++) {
            due("ran(" + what + ")", x.ran(what), 0);
        }
        x.cls(-1);
        x.method(0, 0);
        due("met", x.met(0, 1), 0);
    }

    public static void main(String[] args) {
        stepsAreBounded();
        runNeedsAMethod();
        noStep();
        threeHundredSteps();
        diceOfEachLength();
        lastStatementIsChosen();
        orderOfTheTopMethod();
        methodWithoutStatements();
        thirtyObjects();
        newWithThirtyObjects();
        tenFrames();
        theOnlyFrameStays();
        namesOfACalledFrame();
        namesAreNoneAtFirst();
        receiverOfTheFirstIsNone();
        callWithoutReceiver();
        callWithoutMethodFound();
        methodFoundByTheObject();
        whatIsGivenBack();
        whatIsGivenBackLowInThePile();
        noneOfAll();
        castThatFails();
        castThatFits();
        fieldThatIsNotThere();
        ordinaryKinds();
        readingChangesNothing("LOAD", STORE, LOAD);
        readingChangesNothing("TAKE", LAY, TAKE);
        placesOfAnObject();
        contextOfAFrame();
        allProgramsHold();
        runsDoNotChangeSets();
        metAfterSomeStep();
        metOfEachMethod();
        boundsOfMet();
        boundsOfRan();
        ranOfTheLatest();
        whatForgetsTheRun();
        clearForgetsTheRun();
        end();
    }
}
