/**
 * Sentence by sentence, promises 8 to 16: the SETS, the ROUND at which each thing comes, CONTEXTS,
 * and the bounds of the calls that ask for them.
 */
public final class SetsTest extends Due {
    private static final int[] OUTSIDE_NAMES = {-1, 6, FAR, DEEP};

    /** METHOD 0 makes SITES 0 .. n - 1 of CLASS 0 into NAME 1 and calls METHOD 1 of SIGNATURE 1 on them. */
    private static PointsToRounds callsOn(int n) {
        PointsToRounds x = oneMethod();
        x.method(0, 1);
        for (int i = 0; i < n; i++) {
            say(x, 0, NEW, 1, 0, 0);
        }
        x.statement(0, CALL, 3, 1, 1, 1, 1);
        return x;
    }

    // ---- what comes in which ROUND

    private static void roundZero() {
        sentence("ROUND 0: all SETS are empty; METHOD 0 is REACHED in CONTEXT 0 (if there is one)");
        due("none there", new PointsToRounds().rounds(), 0);
        for (int mode = 0; mode < 2; mode++) {
            PointsToRounds x = oneMethod();
            x.method(0, 1);
            x.mode(mode);
            due("METHOD 0", x.reached(0), 1);
            due("METHOD 1", x.reached(1), 0);
            due("rounds()", x.rounds(), 0);
            for (int name = 0; name < 6; name++) {
                due("NAME " + name, x.points(0, 0, name), 0);
            }
            for (int s = 0; s < 4; s++) {
                due("STATIC " + s, x.inStatic(s), 0);
            }
        }
    }

    private static void onlyReachedMethods() {
        sentence("for each METHOD REACHED there");
        PointsToRounds x = oneMethod();
        x.method(0, 1);
        say(x, 1, NEW, 1, 0, 0);
        say(x, 1, PUT, 0, 1, 0);
        due("NEW in METHOD 1", x.points(1, -1, 1), 0);
        due("PUT in METHOD 1", x.inStatic(0), 0);
        due("when", x.when(1, 1, 0), -3);
        due("rounds()", x.rounds(), 0);
    }

    private static void newAndMove() {
        sentence("NEW: its SITE is in p. MOVE: those of q in p");
        PointsToRounds x = oneMethod();
        say(x, 0, MOVE, 2, 1, 0);
        say(x, 0, NEW, 1, 0, 0);
        say(x, 0, MOVE, 3, 2, 0);
        due("NEW", x.when(0, 1, 0), 1);
        due("MOVE", x.when(0, 2, 0), 2);
        due("MOVE of it", x.when(0, 3, 0), 3);
        due("q keeps its own", x.points(0, 0, 1), 1);
        due("rounds()", x.rounds(), 3);
    }

    /** Told from last to first and from first to last: a ROUND reads only the one before it. */
    private static void roundBefore() {
        sentence("all SETS as they are in the ROUND before");
        for (int way = 0; way < 2; way++) {
            PointsToRounds x = oneMethod();
            for (int i = 0; i < 5; i++) {
                int name = way == 0 ? i : 4 - i;
                say(x, 0, MOVE, name + 1, name, 0);
            }
            say(x, 0, NEW, 0, 0, 0);
            for (int name = 0; name < 6; name++) {
                due("NAME " + name, x.when(0, name, 0), name + 1);
            }
            due("rounds()", x.rounds(), 6);
        }
    }

    /** SITES 0 in NAME 1 and 1 in NAME 2 come in ROUND 1, one of them again, in NAME 4, in ROUND 3. */
    private static PointsToRounds late(int name) {
        PointsToRounds x = oneMethod();
        x.field(0);
        say(x, 0, NEW, 1, 0, 0);
        say(x, 0, NEW, 2, 0, 0);
        say(x, 0, MOVE, 3, name, 0);
        say(x, 0, MOVE, 4, 3, 0);
        return x;
    }

    /** What a KIND reads comes in the same ROUND by a STATEMENT before it: it counts one ROUND later. */
    private static void roundBeforeOfSlots(int write, int read) {
        sentence("all SETS as they are in the ROUND before: KINDS " + write + ", " + read);
        PointsToRounds readLate = late(1);
        say(readLate, 0, write, 1, 2, 0);
        say(readLate, 0, read, 5, 4, 0);
        due("q read of", readLate.when(0, 5, 1), 4);
        PointsToRounds ownerLate = late(1);
        say(ownerLate, 0, write, 4, 2, 0);
        say(ownerLate, 0, read, 5, 1, 0);
        due("p written into", ownerLate.when(0, 5, 1), 5);
        PointsToRounds valueLate = late(2);
        say(valueLate, 0, write, 1, 4, 0);
        say(valueLate, 0, read, 5, 1, 0);
        due("q written", valueLate.when(0, 5, 1), 5);
    }

    private static void roundBeforeOfOthers() {
        sentence("all SETS as they are in the ROUND before: CAST, PUT, GET, CALL");
        PointsToRounds cast = late(2);
        say(cast, 0, CAST, 5, 4, 0);
        due("CAST", cast.when(0, 5, 1), 4);
        PointsToRounds put = late(2);
        say(put, 0, PUT, 1, 4, 0);
        say(put, 0, GET, 5, 1, 0);
        due("PUT, GET", put.when(0, 5, 1), 5);
        PointsToRounds receiver = late(2);
        receiver.method(0, 1);
        receiver.statement(0, CALL, 5, 4, 1, 1, 1);
        due("RECEIVER", receiver.when(1, 0, 1), 4);
        due("and with it what is given", receiver.when(1, 1, 0), 4);
        PointsToRounds given = late(2);
        given.method(0, 1);
        given.statement(0, CALL, 5, 1, 1, 4, 0);
        given.statement(0, CALL, 5, 1, 1, 0, 4);
        due("first given", given.when(1, 1, 1), 4);
        due("second given", given.when(1, 2, 1), 4);
    }

    /** METHOD 2 calls METHOD 1 and METHOD 1 METHOD 2, each giving what it has late. */
    private static void roundBeforeOfGiving() {
        sentence("all SETS as they are in the ROUND before: those of its NAME 5 are in p");
        for (int upper = 1; upper < 3; upper++) {
            int lower = 3 - upper;
            PointsToRounds x = oneMethod();
            x.method(0, 1);
            x.method(0, 2);
            say(x, 0, NEW, 1, 0, 0);
            x.statement(0, CALL, 2, 1, upper, 1, 1);
            x.statement(upper, CALL, 4, 0, lower, 0, 0);
            say(x, lower, MOVE, 5, 0, 0);
            due("REACHED", x.when(upper, 0, 0), 2);
            due("REACHED by that", x.when(lower, 0, 0), 3);
            due("NAME 5 there", x.when(lower, 5, 0), 4);
            due("p", x.when(upper, 4, 0), 5);
        }
    }

    private static void kindsReadNothingElse() {
        sentence("each KIND brings what is told of it and nothing else");
        PointsToRounds x = oneMethod();
        x.method(0, 1);
        x.field(0);
        say(x, 0, NEW, 1, 0, 0);
        say(x, 0, NEW, 2, 0, 0);
        say(x, 0, PUT, 1, 2, 0);
        say(x, 0, STORE, 1, 2, 0);
        say(x, 0, LAY, 1, 2, 0);
        say(x, 0, CAST, 3, 1, 0);
        due("CAST of NAME 1, not STATIC 1", x.points(0, 0, 3), 1);
        x.statement(0, CALL, 4, 1, 1, 1, 1);
        due("CALL gives no ELEMENT", x.points(0, 0, 4), 0);
        say(x, 0, MOVE, 5, 1, 0);
        due("MOVE of NAME 1, not its FIELD", x.points(0, 0, 5), 1);
        due("its FIELD", x.inField(0, 0), 2);
        due("its ELEMENT", x.element(0), 2);
        due("the other's FIELD", x.inField(1, 0), 0);
        due("the other's ELEMENT", x.element(1), 0);
        due("STATIC 1", x.inStatic(1), 2);
        due("STATIC 0", x.inStatic(0), 0);
    }

    /**
     * METHODS 6 .. 9, those FOUND for CLASS 7, have SITES 0 .. 15 in their NAMES 2 .. 5, one each;
     * METHOD 0 calls each on SITE 19 and gives it. What they store: FIELD f of SITE 19 has SITE f, its
     * ELEMENT 8, STATIC s 9 + s.
     */
    private static PointsToRounds allApart() {
        PointsToRounds x = chain();
        for (int f = 0; f < 8; f++) {
            x.field(7 - f);
        }
        for (int m = 1; m < 10; m++) {
            x.method(m / 4, m % 4);
        }
        for (int site = 0; site < 16; site++) {
            say(x, 6 + site / 4, NEW, 2 + site % 4, 0, 0);
        }
        for (int site = 0; site < 13; site++) {
            int kind = site < 8 ? STORE : site == 8 ? LAY : PUT;
            say(x, 6 + site / 4, kind, site < 9 ? 1 : site - 9, 2 + site % 4, site);
        }
        for (int site = 16; site < 20; site++) {
            say(x, 0, NEW, site == 19 ? 2 : 1, 7, 0);
        }
        for (int g = 0; g < 4; g++) {
            x.statement(0, CALL, 3, 2, g, 2, 4);
        }
        x.mode(1);
        return x;
    }

    private static void noTwoPlacesAreOne() {
        sentence("There is one SET for each NAME of each METHOD in each CONTEXT, FIELD, ELEMENT, STATIC");
        PointsToRounds x = allApart();
        for (int site = 0; site < 20; site++) {
            for (int f = 0; f < 8; f++) {
                due("inField(" + site + ", " + f + ")", x.inField(site, f), site == 19 ? 1 << f : 0);
            }
            due("element(" + site + ")", x.element(site), site == 19 ? 1 << 8 : 0);
        }
        for (int s = 0; s < 4; s++) {
            due("inStatic(" + s + ")", x.inStatic(s), 1 << 9 + s);
        }
    }

    private static void noTwoNamesAreOne() {
        sentence("There is one SET for each NAME of each METHOD in each CONTEXT");
        for (int m = 0; m < 10; m++) {
            PointsToRounds x = allApart();
            for (int context = 0; context <= 20; context++) {
                for (int name = 0; name < 6; name++) {
                    String words = "points(" + m + ", " + context + ", " + name + ")";
                    due(words, x.points(m, context, name), apart(m, context, name));
                }
            }
            due("reached(" + m + ")", x.reached(m), m == 0 || m > 5 ? 1 : 0);
        }
    }

    private static int apart(int method, int context, int name) {
        if (method == 0 && context == 0) {
            int given = 1 << 3 | 1 << 7 | 1 << 11 | 1 << 15;
            return new int[] {0, 1 << 16 | 1 << 17 | 1 << 18, 1 << 19, given, 0, 0}[name];
        }
        if (method > 5 && context == 20) {
            return name < 2 ? 1 << 19 : 1 << (method - 6) * 4 + name - 2;
        }
        return 0;
    }

    /** The FIELD gets it a ROUND after the owner has come; the LOAD one later. */
    private static void storeAndLoad() {
        sentence("STORE: for each SITE in p that has it those of q in its FIELD; LOAD likewise");
        PointsToRounds x = family();
        say(x, 0, NEW, 1, 1, 0);
        say(x, 0, NEW, 1, 3, 0);
        say(x, 0, NEW, 2, 2, 0);
        say(x, 0, STORE, 1, 2, 1);
        say(x, 0, LOAD, 3, 1, 1);
        say(x, 0, LOAD, 4, 2, 1);
        due("SITE 0 has it", x.inField(0, 1), 4);
        due("SITE 1 has it not", x.inField(1, 1), 0);
        due("SITE 2 is not in p", x.inField(2, 1), 0);
        due("another FIELD", x.inField(0, 0), 0);
        due("no ELEMENT", x.element(0), 0);
        due("LOAD", x.when(0, 3, 2), 3);
        due("LOAD of another SITE", x.points(0, 0, 4), 0);
        due("rounds()", x.rounds(), 3);
    }

    private static void loadWhereItIsNot() {
        sentence("LOAD and STORE of others, and of none, do nothing");
        PointsToRounds x = family();
        say(x, 0, NEW, 1, 0, 0);
        say(x, 0, NEW, 2, 3, 0);
        say(x, 0, STORE, 1, 1, 1);
        say(x, 0, STORE, 2, 1, 1);
        say(x, 0, STORE, 3, 1, 0);
        say(x, 0, LOAD, 4, 1, 1);
        say(x, 0, LOAD, 4, 2, 0);
        say(x, 0, LOAD, 4, 3, 0);
        due("a FIELD of a child's", x.inField(0, 1), 0);
        due("a FIELD of another's", x.inField(1, 1), 0);
        due("of none", x.inField(0, 0), 0);
        due("LOAD", x.points(0, 0, 4), 0);
        due("rounds()", x.rounds(), 1);
    }

    private static void cast() {
        sentence("CAST: those of q whose CLASS is UNDER r, in p");
        PointsToRounds x = family();
        for (int c = 0; c < 4; c++) {
            say(x, 0, NEW, 0, c, 0);
        }
        for (int r = 0; r < 4; r++) {
            say(x, 0, CAST, 1 + r, 0, r);
        }
        due("UNDER 0", x.points(0, 0, 1), 0b0111);
        due("UNDER 1", x.points(0, 0, 2), 0b0110);
        due("UNDER 2", x.points(0, 0, 3), 0b0100);
        due("UNDER 3", x.points(0, 0, 4), 0b1000);
        due("its ROUND", x.when(0, 4, 3), 2);
        due("what fails never comes", x.when(0, 4, 0), -3);
    }

    private static void putAndGet() {
        sentence("GET, PUT likewise");
        for (int s = 0; s < 4; s++) {
            PointsToRounds x = oneMethod();
            say(x, 0, NEW, 1, 0, 0);
            say(x, 0, PUT, s, 1, 0);
            say(x, 0, GET, 2, s, 0);
            say(x, 0, GET, 3, (s + 1) % 4, 0);
            for (int other = 0; other < 4; other++) {
                due("STATIC " + other, x.inStatic(other), other == s ? 1 : 0);
            }
            due("GET", x.when(0, 2, 0), 3);
            due("GET of another", x.when(0, 3, 0), -3);
            due("rounds()", x.rounds(), 3);
        }
    }

    /** Of SITES without a FIELD and without a PARENT: each has an ELEMENT. */
    private static void layAndTake() {
        sentence("TAKE, LAY likewise; each has an ELEMENT");
        PointsToRounds x = chain();
        for (int c = 0; c < 8; c++) {
            say(x, 0, NEW, 1, c, 0);
        }
        say(x, 0, NEW, 2, 0, 0);
        say(x, 0, LAY, 1, 2, 0);
        say(x, 0, TAKE, 3, 1, 0);
        say(x, 0, TAKE, 4, 2, 0);
        for (int site = 0; site < 8; site++) {
            due("ELEMENT of SITE " + site, x.element(site), 1 << 8);
        }
        due("of what nobody laid into", x.element(8), 0);
        due("TAKE", x.when(0, 3, 8), 3);
        due("TAKE of it", x.points(0, 0, 4), 0);
        due("rounds()", x.rounds(), 3);
    }

    private static void callInRounds() {
        sentence("CALL: REACHED, o in NAME 0, those of s in 1, of t in 2; those of its NAME 5 are in p");
        for (int mode = 0; mode < 2; mode++) {
            PointsToRounds x = oneMethod();
            x.method(0, 1);
            x.mode(mode);
            say(x, 0, NEW, 1, 0, 0);
            say(x, 0, NEW, 2, 0, 0);
            say(x, 0, NEW, 3, 0, 0);
            x.statement(0, CALL, 4, 1, 1, 2, 3);
            say(x, 1, NEW, 5, 0, 0);
            due("RECEIVER", x.when(1, 0, 0), 2);
            due("first given", x.when(1, 1, 1), 2);
            due("second given", x.when(1, 2, 2), 2);
            due("its NEW, a ROUND after", x.when(1, 5, 3), 3);
            due("given back", x.when(0, 4, 3), 4);
            due("rounds()", x.rounds(), 4);
            int context = mode;
            due("NAME 0 alone", x.points(1, context, 0), 1);
            due("NAME 1 alone", x.points(1, context, 1), 2);
            due("NAME 2 alone", x.points(1, context, 2), 4);
            due("NAME 3", x.points(1, context, 3), 0);
            due("NAME 4", x.points(1, context, 4), 0);
            due("NAME 5 alone", x.points(1, context, 5), 8);
            due("p alone", x.points(0, 0, 4), 8);
        }
    }

    private static void onlyNameFiveIsGiven() {
        sentence("NAME 5 what it gives");
        PointsToRounds x = oneMethod();
        x.method(0, 1);
        say(x, 0, NEW, 1, 0, 0);
        x.statement(0, CALL, 4, 1, 1, 1, 1);
        for (int name = 0; name < 5; name++) {
            say(x, 1, NEW, name, 0, 0);
        }
        due("the other NAMES are not given", x.points(0, 0, 4), 0);
        say(x, 1, NEW, 5, 0, 0);
        due("5 is", x.points(0, 0, 4), 1 << 6);
    }

    private static void callWithoutMethodFound() {
        sentence("CALL: for each SITE o in q for which there is a METHOD FOUND");
        PointsToRounds x = family();
        x.method(1, 1);
        say(x, 0, NEW, 1, 0, 0);
        say(x, 0, NEW, 1, 1, 0);
        say(x, 0, NEW, 1, 2, 0);
        say(x, 0, NEW, 1, 3, 0);
        x.statement(0, CALL, 4, 1, 1, 1, 1);
        x.statement(0, CALL, 4, 5, 1, 1, 1);
        due("RECEIVERS", x.points(1, 0, 0), 0b0110);
        due("what is given is not sifted", x.points(1, 0, 1), 0b1111);
        x.mode(1);
        due("CONTEXTS", x.reached(1), 2);
        due("none for SITE 0", x.points(1, 1, 1), 0);
        due("one for SITE 1", x.points(1, 2, 1), 0b1111);
        due("one for SITE 2", x.points(1, 3, 0), 0b0100);
        due("none for SITE 3", x.points(1, 4, 1), 0);
    }

    private static void receiversAreKeptApart() {
        sentence("MODE 1: CONTEXT 0, and 1 + o for each SITE o");
        PointsToRounds x = callsOn(3);
        say(x, 1, MOVE, 5, 0, 0);
        due("MODE 0 mixes", x.points(1, 0, 5), 7);
        x.mode(1);
        for (int o = 0; o < 3; o++) {
            due("RECEIVER in CONTEXT " + (1 + o), x.points(1, 1 + o, 0), 1 << o);
            due("what it gives there", x.points(1, 1 + o, 5), 1 << o);
            due("what is given", x.points(1, 1 + o, 1), 7);
        }
        due("CONTEXT 0 of a called METHOD", x.points(1, 0, 0), 0);
        due("CONTEXT 1 of METHOD 0", x.points(0, 1, 1), 0);
        due("all that is given back", x.points(0, 0, 3), 7);
    }

    private static void methodZeroCalled() {
        sentence("MODE 1: METHOD 0 in CONTEXT 0, and where it is called");
        PointsToRounds x = oneMethod();
        x.mode(1);
        say(x, 0, NEW, 1, 0, 0);
        x.statement(0, CALL, 3, 1, 0, 2, 1);
        due("CONTEXTS", x.reached(0), 2);
        due("the first has no RECEIVER", x.points(0, 0, 0), 0);
        due("the called has", x.points(0, 1, 0), 1);
        due("NEW in both", x.points(0, 1, 1), 1);
        due("second given only where called", x.points(0, 0, 2), 0);
        due("second given only where called", x.points(0, 1, 2), 1);
        x.mode(0);
        due("MODE 0: one CONTEXT", x.reached(0), 1);
        due("MODE 0: with the RECEIVER", x.points(0, 0, 0), 1);
    }

    private static void slotsAreNotOfContexts() {
        sentence("one SET for each FIELD of each SITE, for the ELEMENT, for each STATIC: in no CONTEXT");
        PointsToRounds x = callsOn(2);
        x.field(0);
        say(x, 1, STORE, 0, 1, 0);
        say(x, 1, LAY, 1, 0, 0);
        say(x, 1, PUT, 2, 0, 0);
        x.mode(1);
        due("FIELD of SITE 0", x.inField(0, 0), 3);
        due("FIELD of SITE 1", x.inField(1, 0), 3);
        due("ELEMENT of SITE 0", x.element(0), 3);
        due("STATIC 2", x.inStatic(2), 3);
    }

    private static void allBitsAreTold() {
        sentence("SETS are of SITES, told as bits: the 20th too");
        PointsToRounds x = callsOn(20);
        x.field(0);
        say(x, 0, STORE, 1, 1, 0);
        say(x, 0, LAY, 1, 1, 0);
        say(x, 0, PUT, 3, 1, 0);
        say(x, 1, MOVE, 5, 0, 0);
        for (int mode = 0; mode < 2; mode++) {
            x.mode(mode);
            due("a NAME", x.points(0, 0, 1), ALL_SITES);
            due("a FIELD", x.inField(19, 0), ALL_SITES);
            due("an ELEMENT", x.element(19), ALL_SITES);
            due("a STATIC", x.inStatic(3), ALL_SITES);
            due("all CONTEXTS together", x.points(1, -1, 5), ALL_SITES);
            due("given back", x.points(0, -1, 3), ALL_SITES);
        }
        due("CONTEXT 20", x.points(1, 20, 5), 1 << 19);
    }

    // ---- Promise 8

    private static void contextsOfModeZero() {
        sentence("8 MODE 0: there is CONTEXT 0 alone");
        PointsToRounds x = callsOn(20);
        due("-2", x.points(1, -2, 0), -1);
        due("-1: all", x.points(1, -1, 0), ALL_SITES);
        due("0", x.points(1, 0, 0), ALL_SITES);
        due("1", x.points(1, 1, 0), -1);
        due("20", x.points(1, 20, 0), -1);
        due("FAR", x.points(1, FAR, 0), -1);
        due("DEEP", x.points(1, DEEP, 0), -1);
    }

    private static void contextsOfModeOne() {
        sentence("8 MODE 1: CONTEXT 0, and 1 + o for each SITE o");
        for (int sites : new int[] {0, 1, 19, 20}) {
            PointsToRounds x = callsOn(sites);
            x.mode(1);
            due("-2", x.points(1, -2, 0), -1);
            due("-1: all", x.points(1, -1, 0), (1 << sites) - 1);
            due("0", x.points(1, 0, 0), 0);
            if (sites > 0) {
                due("the last of " + sites, x.points(1, sites, 0), 1 << sites - 1);
            }
            due("the first that is none of " + sites, x.points(1, sites + 1, 0), -1);
            due("FAR", x.points(1, FAR, 0), -1);
            due("DEEP", x.points(1, DEEP, 0), -1);
        }
    }

    private static void contextComesWithItsSite() {
        sentence("8 a CONTEXT is there as soon as its SITE is");
        PointsToRounds x = oneMethod();
        x.mode(1);
        due("before", x.points(0, 1, 0), -1);
        say(x, 0, NEW, 1, 0, 0);
        due("after", x.points(0, 1, 0), 0);
        x.clear();
        x.cls(-1);
        x.method(0, 0);
        due("after a clear", x.points(0, 1, 0), -1);
        due("CONTEXT 0 stays", x.points(0, 0, 0), 0);
    }

    private static void methodsAndNamesOfPoints() {
        sentence("8 -1 (METHOD, NAME, CONTEXT)");
        PointsToRounds x = full();
        for (int mode = 0; mode < 2; mode++) {
            x.mode(mode);
            for (int m : new int[] {-1, 10, FAR, DEEP}) {
                due("METHOD " + m, x.points(m, 0, 0), -1);
            }
            for (int n : OUTSIDE_NAMES) {
                due("NAME " + n, x.points(0, 0, n), -1);
                due("NAME " + n + " of all", x.points(9, -1, n), -1);
            }
            due("the last METHOD and NAME", Math.min(0, x.points(9, 0, 5)), 0);
            due("the first METHOD and NAME", Math.min(0, x.points(0, 0, 0)), 0);
        }
    }

    // ---- Promises 9, 10, 11

    private static void boundsOfInField() {
        sentence("9 inField -1");
        PointsToRounds x = family();
        due("no SITE there", x.inField(0, 0), -1);
        say(x, 0, NEW, 1, 3, 0);
        say(x, 0, NEW, 1, 1, 0);
        for (int f : new int[] {-1, 2, FAR, DEEP}) {
            due("FIELD " + f, x.inField(0, f), -1);
            due("SITE " + f, x.inField(f, 0), -1);
        }
        due("first and last", x.inField(0, 1), 0);
        due("last and first", x.inField(1, 0), 0);
        PointsToRounds y = oneMethod();
        say(y, 0, NEW, 1, 0, 0);
        due("no FIELD there", y.inField(0, 0), -1);
    }

    private static void emptyWhereItHasNone() {
        sentence("9 (empty where it has none)");
        PointsToRounds x = family();
        say(x, 0, NEW, 1, 0, 0);
        say(x, 0, NEW, 1, 1, 0);
        say(x, 0, NEW, 1, 3, 0);
        say(x, 0, STORE, 1, 1, 1);
        due("a PARENT's SITE", x.inField(0, 1), 0);
        due("its own", x.inField(1, 1), 7);
        due("another's", x.inField(2, 1), 0);
    }

    private static void boundsOfElement() {
        sentence("10 element -1");
        PointsToRounds x = oneMethod();
        due("no SITE there", x.element(0), -1);
        for (int i = 0; i < 20; i++) {
            due("before SITE " + i, x.element(i), -1);
            say(x, 0, NEW, 1, 0, 0);
            due("SITE " + i, x.element(i), 0);
        }
        for (int s : new int[] {-1, 20, FAR, DEEP}) {
            due("SITE " + s, x.element(s), -1);
        }
        say(x, 0, LAY, 1, 1, 0);
        due("the last", x.element(19), ALL_SITES);
        due("the first", x.element(0), ALL_SITES);
    }

    private static void boundsOfInStatic() {
        sentence("11 STATICS are 0 .. 3");
        PointsToRounds x = new PointsToRounds();
        for (int s : new int[] {-1, 4, FAR, DEEP}) {
            due("STATIC " + s, x.inStatic(s), -1);
        }
        for (int s = 0; s < 4; s++) {
            due("STATIC " + s, x.inStatic(s), 0);
        }
    }

    // ---- Promise 12

    private static void reachedInContexts() {
        sentence("12 In how many CONTEXTS");
        for (int sites : new int[] {0, 1, 2, 20}) {
            PointsToRounds x = callsOn(sites);
            due("MODE 0, " + sites + " SITES", x.reached(1), sites == 0 ? 0 : 1);
            x.mode(1);
            due("MODE 1, " + sites + " SITES", x.reached(1), sites);
            x.statement(0, CALL, 2, 1, 0, 1, 1);
            due("METHOD 0, called on " + sites, x.reached(0), 1 + sites);
        }
    }

    private static void boundsOfReached() {
        sentence("12 reached -1");
        PointsToRounds x = full();
        for (int m : new int[] {-1, 10, FAR, DEEP}) {
            due("METHOD " + m, x.reached(m), -1);
        }
        due("the last", Math.min(0, x.reached(9)), 0);
        due("the first", x.reached(0), 1);
    }

    // ---- Promise 13

    /** Ten CALLS of ten METHODS of one chain, by CLASS and SIGNATURE. */
    private static void mayReachEachMethod() {
        sentence("13 Which METHODS (as bits) a CALL may reach");
        PointsToRounds x = chain();
        for (int c = 1; c < 8; c++) {
            x.method(c, 0);
        }
        x.method(0, 3);
        x.method(7, 3);
        for (int c = 0; c < 8; c++) {
            say(x, 0, NEW, 1, c, 0);
        }
        due("eight", x.may(x.statement(0, CALL, 2, 1, 0, 1, 1)), 0b0011111111);
        due("the last two", x.may(x.statement(0, CALL, 2, 1, 3, 1, 1)), 0b1100000000);
        due("none", x.may(x.statement(0, CALL, 2, 1, 1, 1, 1)), 0);
        due("on nothing", x.may(x.statement(0, CALL, 2, 3, 0, 1, 1)), 0);
    }

    private static void mayOfAllContexts() {
        sentence("13 in all CONTEXTS together");
        PointsToRounds x = family();
        x.method(0, 1);
        x.method(0, 2);
        x.method(2, 2);
        say(x, 0, NEW, 1, 1, 0);
        say(x, 0, NEW, 2, 2, 0);
        say(x, 0, NEW, 3, 3, 0);
        x.statement(0, CALL, 4, 1, 1, 2, 3);
        x.statement(0, CALL, 4, 2, 1, 1, 2);
        int call = x.statement(1, CALL, 4, 0, 2, 1, 2);
        int cast = say(x, 1, CAST, 3, 2, 0);
        int narrow = say(x, 1, CAST, 3, 1, 2);
        for (int mode = 0; mode < 2; mode++) {
            x.mode(mode);
            due("CALL", x.may(call), 1 << 2 | 1 << 3);
            due("CAST", x.may(cast), 4);
            due("CAST", x.may(narrow), 1);
        }
    }

    private static void mayFailEachSite() {
        sentence("13 of a CAST which SITES may fail");
        PointsToRounds x = oneMethod();
        x.cls(-1);
        for (int i = 0; i < 20; i++) {
            say(x, 0, NEW, 1, 0, 0);
        }
        due("all", x.may(say(x, 0, CAST, 2, 1, 1)), ALL_SITES);
        due("none", x.may(say(x, 0, CAST, 2, 1, 0)), 0);
        due("of nothing", x.may(say(x, 0, CAST, 2, 3, 1)), 0);
    }

    private static void mayOfWhatIsNeverDone() {
        sentence("13 may, where the METHOD is not REACHED");
        PointsToRounds x = oneMethod();
        x.cls(-1);
        x.method(0, 1);
        say(x, 1, NEW, 1, 0, 0);
        due("CALL", x.may(x.statement(1, CALL, 2, 1, 1, 1, 1)), 0);
        due("CAST", x.may(say(x, 1, CAST, 2, 1, 1)), 0);
    }

    private static void boundsOfMay() {
        sentence("13 -1, -3 it is neither");
        PointsToRounds x = family();
        due("no STATEMENT there", x.may(0), -1);
        for (int kind = 0; kind < 10; kind++) {
            due("before it is there", x.may(kind), -1);
            tell(x, 0, kind, zeros(kind));
            int got = x.may(kind);
            due("KIND " + kind, got < 0 ? got : 0, kind == CAST || kind == CALL ? 0 : -3);
        }
        for (int s : new int[] {-1, 10, FAR, DEEP}) {
            due("STATEMENT " + s, x.may(s), -1);
        }
    }

    // ---- Promise 14

    private static void aliasOfNames() {
        sentence("14 Whether two NAMES may be the same object: 1 or 0");
        PointsToRounds x = oneMethod();
        x.method(0, 1);
        say(x, 0, NEW, 1, 0, 0);
        say(x, 0, NEW, 2, 0, 0);
        say(x, 0, MOVE, 3, 1, 0);
        say(x, 0, MOVE, 3, 2, 0);
        x.statement(0, CALL, 4, 2, 1, 1, 5);
        due("one SITE of two", x.alias(0, 1, 0, 3), 1);
        due("the other", x.alias(0, 3, 0, 2), 1);
        due("two SITES", x.alias(0, 1, 0, 2), 0);
        due("with itself", x.alias(0, 1, 0, 1), 1);
        due("empty with itself", x.alias(0, 4, 0, 4), 0);
        due("empty with another", x.alias(0, 4, 0, 3), 0);
        due("of another METHOD", x.alias(1, 1, 0, 1), 1);
        due("of another METHOD", x.alias(0, 1, 1, 0), 0);
        due("the last SITE's bit", lastSiteAlias(), 1);
    }

    private static int lastSiteAlias() {
        PointsToRounds x = oneMethod();
        for (int i = 0; i < 19; i++) {
            say(x, 0, NEW, 1, 0, 0);
        }
        say(x, 0, NEW, 2, 0, 0);
        say(x, 0, MOVE, 3, 2, 0);
        return x.alias(0, 2, 0, 3);
    }

    private static void aliasOfAllContexts() {
        sentence("14 in all CONTEXTS together");
        PointsToRounds x = oneMethod();
        x.method(0, 1);
        x.mode(1);
        say(x, 0, NEW, 1, 0, 0);
        say(x, 0, NEW, 2, 0, 0);
        x.statement(0, CALL, 4, 1, 1, 2, 5);
        x.statement(0, CALL, 4, 2, 1, 5, 1);
        due("in one CONTEXT NAME 1, in another NAME 0", x.alias(1, 0, 1, 1), 1);
        due("in one CONTEXT NAME 0, in another NAME 2", x.alias(1, 2, 1, 0), 1);
        due("never the same", x.alias(1, 1, 1, 2), 0);
        due("CONTEXT 0 and CONTEXT 2", x.alias(0, 2, 1, 0), 1);
    }

    private static void boundsOfAlias() {
        sentence("14 alias -1");
        PointsToRounds x = full();
        for (int m : new int[] {-1, 10, FAR, DEEP}) {
            due("m1 " + m, x.alias(m, 0, 0, 0), -1);
            due("m2 " + m, x.alias(0, 0, m, 0), -1);
        }
        for (int n : OUTSIDE_NAMES) {
            due("n1 " + n, x.alias(0, n, 0, 0), -1);
            due("n2 " + n, x.alias(0, 0, 0, n), -1);
        }
        due("the last", Math.min(0, x.alias(9, 5, 9, 5)), 0);
        due("the first and the last", Math.min(0, x.alias(0, 0, 9, 5)), 0);
    }

    // ---- Promise 15

    private static void lastRound() {
        sentence("15 The LAST ROUND is the first one after which nothing comes any more");
        PointsToRounds x = oneMethod();
        due("no STATEMENT", x.rounds(), 0);
        say(x, 0, MOVE, 2, 1, 0);
        due("nothing to come", x.rounds(), 0);
        say(x, 0, NEW, 1, 0, 0);
        due("NEW, then MOVE", x.rounds(), 2);
        say(x, 0, NEW, 2, 0, 0);
        due("another NEW", x.rounds(), 2);
        say(x, 0, MOVE, 1, 2, 0);
        due("a ring", x.rounds(), 2);
        say(x, 0, PUT, 0, 1, 0);
        due("a STATIC at the end", x.rounds(), 3);
        say(x, 0, LAY, 2, 1, 0);
        due("an ELEMENT at the end", x.rounds(), 3);
        x.clear();
        due("nothing there", x.rounds(), 0);
    }

    private static void lastRoundOfFields() {
        sentence("15 the LAST ROUND, where only a FIELD, a NAME of a called METHOD comes last");
        PointsToRounds x = family();
        say(x, 0, NEW, 1, 0, 0);
        say(x, 0, STORE, 1, 1, 0);
        due("a FIELD", x.rounds(), 2);
        PointsToRounds y = callsOn(1);
        due("a called METHOD", y.rounds(), 2);
        y.mode(1);
        due("a called METHOD, MODE 1", y.rounds(), 2);
    }

    /** Through a CALL, a STATIC, what is given back, an ELEMENT: one ROUND each. */
    private static void longWay() {
        sentence("15 a long way");
        PointsToRounds x = oneMethod();
        x.method(0, 1);
        say(x, 0, NEW, 1, 0, 0);
        say(x, 0, NEW, 2, 0, 0);
        x.statement(0, CALL, 3, 1, 1, 2, 1);
        say(x, 1, MOVE, 3, 1, 0);
        say(x, 1, MOVE, 4, 3, 0);
        say(x, 1, PUT, 0, 4, 0);
        say(x, 1, GET, 5, 0, 0);
        say(x, 0, LAY, 3, 3, 0);
        say(x, 0, TAKE, 4, 3, 0);
        say(x, 0, MOVE, 5, 4, 0);
        due("comes back", x.when(0, 3, 1), 7);
        due("out of the ELEMENT", x.when(0, 4, 1), 9);
        due("and on", x.when(0, 5, 1), 10);
        due("rounds()", x.rounds(), 10);
    }

    // ---- Promise 16

    private static void whenInSomeContext() {
        sentence("16 The ROUND at which a SITE came to a NAME, in some CONTEXT");
        PointsToRounds x = oneMethod();
        x.method(0, 1);
        x.mode(1);
        say(x, 0, NEW, 1, 0, 0);
        say(x, 0, NEW, 2, 0, 0);
        say(x, 0, MOVE, 3, 2, 0);
        say(x, 0, MOVE, 4, 3, 0);
        x.statement(0, CALL, 5, 4, 1, 1, 1);
        due("in CONTEXT 2, late", x.when(1, 1, 0), 4);
        x.statement(0, CALL, 5, 1, 1, 1, 1);
        due("in CONTEXT 1, earlier", x.when(1, 1, 0), 2);
        due("in both", x.points(1, 1, 1) + x.points(1, 2, 1), 2);
        due("RECEIVER of CONTEXT 2", x.when(1, 0, 1), 4);
    }

    private static void whenIsTheFirst() {
        sentence("16 it came once: later ROUNDS do not count");
        PointsToRounds x = oneMethod();
        say(x, 0, NEW, 1, 0, 0);
        say(x, 0, MOVE, 2, 1, 0);
        say(x, 0, MOVE, 1, 2, 0);
        say(x, 0, MOVE, 3, 2, 0);
        say(x, 0, MOVE, 1, 3, 0);
        due("NAME 1", x.when(0, 1, 0), 1);
        due("NAME 2", x.when(0, 2, 0), 2);
        due("NAME 3", x.when(0, 3, 0), 3);
    }

    private static void whenNever() {
        sentence("16 -3 it never does");
        PointsToRounds x = oneMethod();
        x.method(0, 1);
        say(x, 0, NEW, 1, 0, 0);
        say(x, 1, NEW, 1, 0, 0);
        due("another NAME", x.when(0, 0, 0), -3);
        due("another SITE", x.when(0, 1, 1), -3);
        due("another METHOD", x.when(1, 1, 0), -3);
        due("a METHOD not REACHED", x.when(1, 1, 1), -3);
        x.statement(0, CALL, 5, 1, 1, 1, 1);
        due("once REACHED", x.when(1, 1, 1), 3);
    }

    private static void boundsOfWhen() {
        sentence("16 when -1");
        PointsToRounds x = callsOn(20);
        for (int m : new int[] {-1, 2, FAR, DEEP}) {
            due("METHOD " + m, x.when(m, 1, 0), -1);
        }
        for (int n : OUTSIDE_NAMES) {
            due("NAME " + n, x.when(0, n, 0), -1);
        }
        for (int s : new int[] {-1, 20, FAR, DEEP}) {
            due("SITE " + s, x.when(0, 1, s), -1);
        }
        due("the last SITE", x.when(0, 1, 19), 1);
        due("the first SITE", x.when(0, 1, 0), 1);
        due("the last NAME", x.when(1, 5, 19), -3);
        due("the first NAME", x.when(1, 0, 19), 2);
        due("no SITE there", oneMethod().when(0, 0, 0), -1);
    }

    // ---- questions and changes

    private static void changesCountAtOnce() {
        sentence("What is told is that of the LAST: after each change anew");
        PointsToRounds x = oneMethod();
        due("nothing", x.points(0, 0, 1), 0);
        say(x, 0, NEW, 1, 0, 0);
        due("NEW", x.points(0, 0, 1), 1);
        x.statement(0, CALL, 2, 1, 1, 1, 1);
        due("no METHOD FOUND", x.may(1), 0);
        x.method(0, 1);
        due("a METHOD told later", x.reached(1), 1);
        x.field(0);
        say(x, 0, STORE, 1, 1, 0);
        due("a FIELD told later", x.inField(0, 0), 1);
        x.mode(1);
        due("a MODE told later", x.points(1, 1, 0), 1);
    }

    public static void main(String[] args) {
        roundZero();
        onlyReachedMethods();
        newAndMove();
        roundBefore();
        roundBeforeOfSlots(STORE, LOAD);
        roundBeforeOfSlots(LAY, TAKE);
        roundBeforeOfOthers();
        roundBeforeOfGiving();
        kindsReadNothingElse();
        noTwoPlacesAreOne();
        noTwoNamesAreOne();
        storeAndLoad();
        loadWhereItIsNot();
        cast();
        putAndGet();
        layAndTake();
        callInRounds();
        onlyNameFiveIsGiven();
        callWithoutMethodFound();
        receiversAreKeptApart();
        methodZeroCalled();
        slotsAreNotOfContexts();
        allBitsAreTold();
        contextsOfModeZero();
        contextsOfModeOne();
        contextComesWithItsSite();
        methodsAndNamesOfPoints();
        boundsOfInField();
        emptyWhereItHasNone();
        boundsOfElement();
        boundsOfInStatic();
        reachedInContexts();
        boundsOfReached();
        mayReachEachMethod();
        mayOfAllContexts();
        mayFailEachSite();
        mayOfWhatIsNeverDone();
        boundsOfMay();
        aliasOfNames();
        aliasOfAllContexts();
        boundsOfAlias();
        lastRound();
        lastRoundOfFields();
        longWay();
        whenInSomeContext();
        whenIsTheFirst();
        whenNever();
        boundsOfWhen();
        changesCountAtOnce();
        end();
    }
}
