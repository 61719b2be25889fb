import java.util.Arrays;

/**
 * What may point to what in a small program, found round by round, and runs of that program held
 * against what was found. The promises stand in DOC.md; words in capitals there are used here.
 */
public final class PointsToRounds {
    private static final int MAX_CLASSES = 8;
    private static final int MAX_FIELDS = 8;
    private static final int MAX_METHODS = 10;
    private static final int MAX_STATEMENTS = 60;
    private static final int MAX_SITES = 20;
    private static final int MAX_CONTEXTS = 1 + MAX_SITES;
    private static final int MAX_OBJECTS = 30;
    private static final int MAX_FRAMES = 10;
    private static final int MAX_STEPS = 300;
    private static final int STATICS = 4;
    private static final int SIGNATURES = 4;
    private static final int NAMES = 6;

    private static final int RECEIVER = 0;
    private static final int FIRST_GIVEN = 1;
    private static final int SECOND_GIVEN = 2;
    private static final int GIVES = 5;

    private static final int NEW = 0;
    private static final int MOVE = 1;
    private static final int LOAD = 2;
    private static final int STORE = 3;
    private static final int CAST = 4;
    private static final int GET = 5;
    private static final int PUT = 6;
    private static final int CALL = 7;
    private static final int TAKE = 8;
    private static final int LAY = 9;

    private static final int NO_SUCH = -1;
    private static final int OUT_OF_BOUNDS = -2;
    private static final int NOT_SO = -3;
    private static final int NO_ROOM = -4;

    /** No PARENT, no METHOD FOUND, no object. */
    private static final int NONE = -1;

    /** In the place of a CONTEXT: all of them together. */
    private static final int ALL_CONTEXTS = -1;

    /** A slot is a FIELD or, behind the last FIELD, the ELEMENT: both are read and written alike. */
    private static final int ELEMENT = MAX_FIELDS;
    private static final int SLOTS = MAX_FIELDS + 1;

    /** All SETS stand in one row, so that a ROUND is copied at once: NAMES, slots, STATICS, REACHED. */
    private static final int SLOT_PLACES = MAX_METHODS * MAX_CONTEXTS * NAMES;
    private static final int STATIC_PLACES = SLOT_PLACES + MAX_SITES * SLOTS;
    private static final int REACHED_PLACES = STATIC_PLACES + STATICS;
    private static final int PLACES = REACHED_PLACES + MAX_METHODS;

    /** Each ROUND but the last brings at least one bit, and no row has more bits than this. */
    private static final int MAX_ROUNDS = PLACES * 32;

    private final Program program;
    private final Sets sets;
    private final Trial trial;

    public PointsToRounds() {
        program = new Program();
        sets = new Sets(program);
        trial = new Trial(program, sets);
    }

    public int cls(int parent) {
        if (parent != NONE && !program.hasClass(parent)) {
            return NO_SUCH;
        }
        if (program.classes >= MAX_CLASSES) {
            return NO_ROOM;
        }
        forgetAnswers();
        return program.addClass(parent);
    }

    public int field(int cls) {
        if (!program.hasClass(cls)) {
            return NO_SUCH;
        }
        if (program.fields >= MAX_FIELDS) {
            return NO_ROOM;
        }
        forgetAnswers();
        return program.addField(cls);
    }

    public int method(int cls, int signature) {
        if (!program.hasClass(cls)) {
            return NO_SUCH;
        }
        if (!isSignature(signature)) {
            return OUT_OF_BOUNDS;
        }
        if (program.ownMethod(cls, signature) != NONE) {
            return NOT_SO;
        }
        if (program.methods >= MAX_METHODS) {
            return NO_ROOM;
        }
        forgetAnswers();
        return program.addMethod(cls, signature);
    }

    public int statement(int method, int kind, int p, int q, int r, int s, int t) {
        if (!program.hasMethod(method)) {
            return NO_SUCH;
        }
        if (kind < NEW || kind > LAY) {
            return OUT_OF_BOUNDS;
        }
        if (!program.hasOperands(kind, p, q, r, s, t)) {
            return NO_SUCH;
        }
        if (kind == CALL && !isSignature(r)) {
            return OUT_OF_BOUNDS;
        }
        if (!program.hasRoomFor(kind)) {
            return NO_ROOM;
        }
        forgetAnswers();
        program.nextStatement().tell(kind, p, q, r, s, t);
        return program.addStatement(method);
    }

    public int mode(int m) {
        if (m != 0 && m != 1) {
            return OUT_OF_BOUNDS;
        }
        int was = sets.perReceiver ? 1 : 0;
        forgetAnswers();
        sets.perReceiver = m == 1;
        return was;
    }

    public int clear() {
        int had = program.statements;
        forgetAnswers();
        program.empty();
        return had;
    }

    // ---- sets

    public int points(int method, int context, int name) {
        if (!program.hasName(method, name)) {
            return NO_SUCH;
        }
        if (context != ALL_CONTEXTS && !sets.hasContext(context)) {
            return NO_SUCH;
        }
        sets.settle();
        if (context == ALL_CONTEXTS) {
            return sets.inAllContexts(method, name);
        }
        return sets.at(namesOf(method, context) + name);
    }

    public int inField(int site, int field) {
        if (!program.hasSite(site) || !program.hasField(field)) {
            return NO_SUCH;
        }
        sets.settle();
        return sets.at(slotPlace(site, field));
    }

    public int element(int site) {
        if (!program.hasSite(site)) {
            return NO_SUCH;
        }
        sets.settle();
        return sets.at(slotPlace(site, ELEMENT));
    }

    public int inStatic(int s) {
        if (!isStatic(s)) {
            return NO_SUCH;
        }
        sets.settle();
        return sets.at(STATIC_PLACES + s);
    }

    public int reached(int method) {
        if (!program.hasMethod(method)) {
            return NO_SUCH;
        }
        sets.settle();
        return Integer.bitCount(sets.at(REACHED_PLACES + method));
    }

    public int may(int statement) {
        if (!program.hasStatement(statement)) {
            return NO_SUCH;
        }
        Statement told = program.numbered[statement];
        if (told.kind != CALL && told.kind != CAST) {
            return NOT_SO;
        }
        sets.settle();
        int source = sets.inAllContexts(told.method, told.q);
        if (told.kind == CALL) {
            return program.methodsFound(source, told.r);
        }
        return source & ~program.sitesUnder[told.r];
    }

    public int alias(int m1, int n1, int m2, int n2) {
        if (!program.hasName(m1, n1) || !program.hasName(m2, n2)) {
            return NO_SUCH;
        }
        sets.settle();
        int common = sets.inAllContexts(m1, n1) & sets.inAllContexts(m2, n2);
        return common != 0 ? 1 : 0;
    }

    public int rounds() {
        sets.settle();
        return sets.last;
    }

    public int when(int method, int name, int site) {
        if (!program.hasName(method, name) || !program.hasSite(site)) {
            return NO_SUCH;
        }
        sets.settle();
        int round = sets.firstRound(method, name, site);
        return round == 0 ? NOT_SO : round;
    }

    // ---- runs

    public int run(int seed, int steps) {
        if (steps < 0 || steps > MAX_STEPS) {
            return OUT_OF_BOUNDS;
        }
        if (program.methods == 0) {
            return NOT_SO;
        }
        sets.settle();
        return trial.holdsFor(seed, steps) ? 1 : 0;
    }

    public int met(int method, int name) {
        if (!program.hasName(method, name)) {
            return NO_SUCH;
        }
        return trial.metSites[method * NAMES + name];
    }

    public int ran(int what) {
        switch (what) {
            case 0:
                return trial.objects;
            case 1:
                return trial.frames;
            case 2:
                return trial.calls;
            default:
                return OUT_OF_BOUNDS;
        }
    }

    /** What was found and what was run are of the program and the MODE as they were. */
    private void forgetAnswers() {
        sets.settled = false;
        trial.forget();
    }

    private static boolean isName(int name) {
        return name >= 0 && name < NAMES;
    }

    private static boolean isStatic(int number) {
        return number >= 0 && number < STATICS;
    }

    private static boolean isSignature(int signature) {
        return signature >= 0 && signature < SIGNATURES;
    }

    private static boolean hasBit(int bits, int number) {
        return (bits >>> number & 1) != 0;
    }

    /** The place of NAME 0 of a METHOD in a CONTEXT; its other NAMES stand behind it. */
    private static int namesOf(int method, int context) {
        return (method * MAX_CONTEXTS + context) * NAMES;
    }

    private static int slotPlace(int site, int slot) {
        return SLOT_PLACES + site * SLOTS + slot;
    }

    /** One STATEMENT; the numbers that its KIND does not use may be anything. */
    private static final class Statement {
        int method;
        int site;
        int kind;
        int p;
        int q;
        int r;
        int s;
        int t;

        void tell(int newKind, int newP, int newQ, int newR, int newS, int newT) {
            kind = newKind;
            p = newP;
            q = newQ;
            r = newR;
            s = newS;
            t = newT;
        }
    }

    /** CLASSES, FIELDS, METHODS and STATEMENTS. A row's cells count only below its number of entries. */
    private static final class Program {
        int classes;
        int fields;
        int methods;
        int statements;
        int sites;
        final int[] parent = new int[MAX_CLASSES];
        /** For each CLASS, as bits: the CLASSES that it is UNDER. */
        final int[] above = new int[MAX_CLASSES];
        /** For each CLASS, as bits: the SITES whose CLASS is UNDER it. */
        final int[] sitesUnder = new int[MAX_CLASSES];
        final int[] own = new int[MAX_CLASSES * SIGNATURES];
        final int[] found = new int[MAX_CLASSES * SIGNATURES];
        final int[] fieldClass = new int[MAX_FIELDS];
        final int[] siteClass = new int[MAX_SITES];
        final Statement[] numbered = new Statement[MAX_STATEMENTS];
        /** For each METHOD: how many STATEMENTS it has, and which, in their order. */
        final int[] length = new int[MAX_METHODS];
        final int[] order = new int[MAX_METHODS * MAX_STATEMENTS];

        Program() {
            for (int i = 0; i < MAX_STATEMENTS; i++) {
                numbered[i] = new Statement();
            }
        }

        boolean hasClass(int number) {
            return number >= 0 && number < classes;
        }

        boolean hasField(int number) {
            return number >= 0 && number < fields;
        }

        boolean hasMethod(int number) {
            return number >= 0 && number < methods;
        }

        boolean hasName(int method, int name) {
            return hasMethod(method) && isName(name);
        }

        boolean hasStatement(int number) {
            return number >= 0 && number < statements;
        }

        boolean hasSite(int number) {
            return number >= 0 && number < sites;
        }

        /** The SIGNATURE of a CALL is not looked at: a wrong one is refused otherwise. */
        boolean hasOperands(int kind, int p, int q, int r, int s, int t) {
            switch (kind) {
                case NEW:
                    return isName(p) && hasClass(q);
                case LOAD:
                case STORE:
                    return isName(p) && isName(q) && hasField(r);
                case CAST:
                    return isName(p) && isName(q) && hasClass(r);
                case GET:
                    return isName(p) && isStatic(q);
                case PUT:
                    return isStatic(p) && isName(q);
                case CALL:
                    return isName(p) && isName(q) && isName(s) && isName(t);
                default:
                    return isName(p) && isName(q);
            }
        }

        boolean hasRoomFor(int kind) {
            return statements < MAX_STATEMENTS && (kind != NEW || sites < MAX_SITES);
        }

        void empty() {
            classes = 0;
            fields = 0;
            methods = 0;
            statements = 0;
            sites = 0;
        }

        int addClass(int parentClass) {
            int number = classes++;
            parent[number] = parentClass;
            above[number] = 1 << number;
            if (parentClass != NONE) {
                above[number] |= above[parentClass];
            }
            sitesUnder[number] = 0;
            for (int signature = 0; signature < SIGNATURES; signature++) {
                own[number * SIGNATURES + signature] = NONE;
                findMethod(number, signature);
            }
            return number;
        }

        int addField(int ofClass) {
            int number = fields++;
            fieldClass[number] = ofClass;
            return number;
        }

        int addMethod(int ofClass, int signature) {
            int number = methods++;
            length[number] = 0;
            own[ofClass * SIGNATURES + signature] = number;
            for (int c = ofClass; c < classes; c++) {
                findMethod(c, signature);
            }
            return number;
        }

        /** A PARENT is an earlier CLASS, so what is found for it is known before. */
        private void findMethod(int ofClass, int signature) {
            int method = own[ofClass * SIGNATURES + signature];
            if (method == NONE && parent[ofClass] != NONE) {
                method = found[parent[ofClass] * SIGNATURES + signature];
            }
            found[ofClass * SIGNATURES + signature] = method;
        }

        Statement nextStatement() {
            return numbered[statements];
        }

        /** Takes in what nextStatement was told. */
        int addStatement(int method) {
            int number = statements++;
            Statement added = numbered[number];
            added.method = method;
            order[method * MAX_STATEMENTS + length[method]] = number;
            length[method]++;
            if (added.kind == NEW) {
                added.site = addSite(added.q);
            }
            return number;
        }

        private int addSite(int ofClass) {
            int number = sites++;
            siteClass[number] = ofClass;
            for (int c = 0; c <= ofClass; c++) {
                if (hasBit(above[ofClass], c)) {
                    sitesUnder[c] |= 1 << number;
                }
            }
            return number;
        }

        int ownMethod(int ofClass, int signature) {
            return own[ofClass * SIGNATURES + signature];
        }

        int methodFound(int site, int signature) {
            return found[siteClass[site] * SIGNATURES + signature];
        }

        /** As bits: the METHODS FOUND for the CLASSES of the SITES given as bits. */
        int methodsFound(int siteBits, int signature) {
            int bits = 0;
            for (int site = 0; site < sites; site++) {
                int method = methodFound(site, signature);
                if (hasBit(siteBits, site) && method != NONE) {
                    bits |= 1 << method;
                }
            }
            return bits;
        }

        /** As bits: the SITES whose objects have the slot. */
        int sitesWith(int slot) {
            return slot == ELEMENT ? (1 << sites) - 1 : sitesUnder[fieldClass[slot]];
        }

        /** The STATEMENT of a METHOD that stands there at an index below its length. */
        Statement statementOf(int method, int index) {
            return numbered[order[method * MAX_STATEMENTS + index]];
        }
    }

    /** The SETS of the LAST ROUND, found when first asked for. */
    private static final class Sets {
        private final Program program;
        private final int[] before = new int[PLACES];
        private final int[] now = new int[PLACES];
        private final int[] cameAt = new int[MAX_METHODS * NAMES * MAX_SITES];
        private int round;
        private boolean grown;
        int last;
        boolean settled;
        boolean perReceiver;

        Sets(Program ofProgram) {
            program = ofProgram;
        }

        boolean hasContext(int number) {
            return number >= 0 && number <= (perReceiver ? program.sites : 0);
        }

        int contextOf(int receiverSite) {
            return perReceiver ? 1 + receiverSite : 0;
        }

        int at(int place) {
            return now[place];
        }

        int inAllContexts(int method, int name) {
            int all = 0;
            for (int context = 0; context < MAX_CONTEXTS; context++) {
                all |= now[namesOf(method, context) + name];
            }
            return all;
        }

        /** 0, at which all SETS are empty, where the SITE never comes. */
        int firstRound(int method, int name, int site) {
            return cameAt[(method * NAMES + name) * MAX_SITES + site];
        }

        void settle() {
            if (settled) {
                return;
            }
            Arrays.fill(now, 0);
            Arrays.fill(cameAt, 0);
            if (program.methods > 0) {
                now[REACHED_PLACES] = 1;
            }
            round = 0;
            do {
                round++;
                System.arraycopy(now, 0, before, 0, PLACES);
                grown = false;
                doRound();
            } while (grown && round < MAX_ROUNDS);
            last = round - 1;
            settled = true;
        }

        private void doRound() {
            for (int method = 0; method < program.methods; method++) {
                int contexts = before[REACHED_PLACES + method];
                for (int context = 0; context < MAX_CONTEXTS; context++) {
                    int length = hasBit(contexts, context) ? program.length[method] : 0;
                    for (int i = 0; i < length; i++) {
                        doStatement(program.statementOf(method, i), namesOf(method, context));
                    }
                }
            }
        }

        private void doStatement(Statement told, int names) {
            int p = names + told.p;
            int q = names + told.q;
            switch (told.kind) {
                case NEW:
                    add(p, 1 << told.site);
                    break;
                case MOVE:
                    add(p, before[q]);
                    break;
                case LOAD:
                    addFromSlot(p, before[q], told.r);
                    break;
                case STORE:
                    addToSlot(before[p], told.r, before[q]);
                    break;
                case CAST:
                    add(p, before[q] & program.sitesUnder[told.r]);
                    break;
                case GET:
                    add(p, before[STATIC_PLACES + told.q]);
                    break;
                case PUT:
                    add(STATIC_PLACES + told.p, before[q]);
                    break;
                case CALL:
                    doCall(told, names);
                    break;
                case TAKE:
                    addFromSlot(p, before[q], ELEMENT);
                    break;
                default:
                    addToSlot(before[p], ELEMENT, before[q]);
                    break;
            }
        }

        private void addFromSlot(int place, int owners, int slot) {
            int having = owners & program.sitesWith(slot);
            for (int site = 0; site < MAX_SITES && having >>> site != 0; site++) {
                if (hasBit(having, site)) {
                    add(place, before[slotPlace(site, slot)]);
                }
            }
        }

        private void addToSlot(int owners, int slot, int bits) {
            int having = owners & program.sitesWith(slot);
            for (int site = 0; site < MAX_SITES && having >>> site != 0; site++) {
                if (hasBit(having, site)) {
                    add(slotPlace(site, slot), bits);
                }
            }
        }

        private void doCall(Statement told, int names) {
            int receivers = before[names + told.q];
            for (int site = 0; site < program.sites && receivers >>> site != 0; site++) {
                int method = program.methodFound(site, told.r);
                if (hasBit(receivers, site) && method != NONE) {
                    int context = contextOf(site);
                    int there = namesOf(method, context);
                    add(REACHED_PLACES + method, 1 << context);
                    add(there + RECEIVER, 1 << site);
                    add(there + FIRST_GIVEN, before[names + told.s]);
                    add(there + SECOND_GIVEN, before[names + told.t]);
                    add(names + told.p, before[there + GIVES]);
                }
            }
        }

        private void add(int place, int bits) {
            int fresh = bits & ~now[place];
            if (fresh == 0) {
                return;
            }
            now[place] |= fresh;
            grown = true;
            if (place < SLOT_PLACES) {
                noteRound(place, fresh);
            }
        }

        /** Keeps the earliest ROUND, as a SITE may come to a NAME later in another CONTEXT. */
        private void noteRound(int place, int fresh) {
            int method = place / (MAX_CONTEXTS * NAMES);
            int row = (method * NAMES + place % NAMES) * MAX_SITES;
            for (int site = 0; site < MAX_SITES; site++) {
                if ((fresh >>> site & 1) != 0 && cameAt[row + site] == 0) {
                    cameAt[row + site] = round;
                }
            }
        }
    }

    /** The latest RUN, its objects held against the SETS of the LAST ROUND. */
    private static final class Trial {
        private final Program program;
        private final Sets sets;
        private final int[] siteOf = new int[MAX_OBJECTS];
        private final int[] slots = new int[MAX_OBJECTS * SLOTS];
        private final int[] statics = new int[STATICS];
        private final int[] names = new int[MAX_FRAMES * NAMES];
        private final int[] frameMethod = new int[MAX_FRAMES];
        /** Fixed by the CALL: what NAME 0 becomes later does not move a FRAME to another CONTEXT. */
        private final int[] frameContext = new int[MAX_FRAMES];
        /** The NAME in the FRAME below that takes what this FRAME gives. */
        private final int[] frameTarget = new int[MAX_FRAMES];
        final int[] metSites = new int[MAX_METHODS * NAMES];
        private boolean holding;
        int objects;
        int frames;
        int calls;

        Trial(Program ofProgram, Sets ofSets) {
            program = ofProgram;
            sets = ofSets;
        }

        void forget() {
            Arrays.fill(metSites, 0);
            objects = 0;
            frames = 0;
            calls = 0;
        }

        /** The program has a METHOD, and the SETS are settled. */
        boolean holdsFor(int seed, int steps) {
            forget();
            Arrays.fill(statics, NONE);
            pushFrame(0, 0, NONE);
            holding = true;
            int z = seed;
            for (int step = 0; step < steps; step++) {
                z = z * 1664525 + 1013904223;
                doStep(z >>> 1);
                lookAtNames();
            }
            return holding;
        }

        private void pushFrame(int method, int context, int target) {
            int start = frames * NAMES;
            Arrays.fill(names, start, start + NAMES, NONE);
            frameMethod[frames] = method;
            frameContext[frames] = context;
            frameTarget[frames] = target;
            frames++;
        }

        private void doStep(int draw) {
            int top = frames - 1;
            int method = frameMethod[top];
            int length = program.length[method];
            int choice = draw % (length + 1);
            if (choice < length) {
                doStatement(program.statementOf(method, choice), top * NAMES);
            } else if (top > 0) {
                frames = top;
                names[(top - 1) * NAMES + frameTarget[top]] = names[top * NAMES + GIVES];
            }
        }

        private void doStatement(Statement told, int base) {
            switch (told.kind) {
                case NEW:
                    makeObject(told, base);
                    break;
                case MOVE:
                    names[base + told.p] = names[base + told.q];
                    break;
                case LOAD:
                    readSlot(base + told.p, names[base + told.q], told.r);
                    break;
                case STORE:
                    writeSlot(names[base + told.p], told.r, names[base + told.q]);
                    break;
                case CAST:
                    castObject(told, base);
                    break;
                case GET:
                    names[base + told.p] = statics[told.q];
                    break;
                case PUT:
                    statics[told.p] = names[base + told.q];
                    lookAt(statics[told.p], STATIC_PLACES + told.p);
                    break;
                case CALL:
                    enterMethod(told, base);
                    break;
                case TAKE:
                    readSlot(base + told.p, names[base + told.q], ELEMENT);
                    break;
                default:
                    writeSlot(names[base + told.p], ELEMENT, names[base + told.q]);
                    break;
            }
        }

        private void makeObject(Statement told, int base) {
            if (objects >= MAX_OBJECTS) {
                return;
            }
            siteOf[objects] = told.site;
            Arrays.fill(slots, objects * SLOTS, objects * SLOTS + SLOTS, NONE);
            names[base + told.p] = objects;
            objects++;
        }

        private void castObject(Statement told, int base) {
            int object = names[base + told.q];
            if (object == NONE || hasBit(program.sitesUnder[told.r], siteOf[object])) {
                names[base + told.p] = object;
            }
        }

        private boolean hasSlot(int object, int slot) {
            return object != NONE && hasBit(program.sitesWith(slot), siteOf[object]);
        }

        private void readSlot(int target, int owner, int slot) {
            if (hasSlot(owner, slot)) {
                names[target] = slots[owner * SLOTS + slot];
            }
        }

        private void writeSlot(int owner, int slot, int object) {
            if (hasSlot(owner, slot)) {
                slots[owner * SLOTS + slot] = object;
                lookAt(object, slotPlace(siteOf[owner], slot));
            }
        }

        private void enterMethod(Statement told, int base) {
            int receiver = names[base + told.q];
            if (receiver == NONE || frames >= MAX_FRAMES) {
                return;
            }
            int site = siteOf[receiver];
            int method = program.methodFound(site, told.r);
            if (method == NONE) {
                return;
            }
            int there = frames * NAMES;
            pushFrame(method, sets.contextOf(site), told.p);
            names[there + RECEIVER] = receiver;
            names[there + FIRST_GIVEN] = names[base + told.s];
            names[there + SECOND_GIVEN] = names[base + told.t];
            calls++;
        }

        /** Only a PUT, STORE or LAY changes what is no NAME, so looking at what it wrote is enough. */
        private void lookAt(int object, int place) {
            if (object != NONE && !hasBit(sets.at(place), siteOf[object])) {
                holding = false;
            }
        }

        private void lookAtNames() {
            int top = frames - 1;
            int method = frameMethod[top];
            int places = namesOf(method, frameContext[top]);
            for (int name = 0; name < NAMES; name++) {
                int object = names[top * NAMES + name];
                if (object != NONE) {
                    metSites[method * NAMES + name] |= 1 << siteOf[object];
                    lookAt(object, places + name);
                }
            }
        }
    }
}
