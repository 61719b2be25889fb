import java.util.ArrayDeque;
import java.util.ArrayList;
import java.util.Arrays;
import java.util.Deque;
import java.util.HashMap;
import java.util.HashSet;
import java.util.List;
import java.util.Map;
import java.util.Random;
import java.util.Set;
import java.util.TreeSet;

/** Long random runs of calls, each answer held against a plain model that keeps every ROUND whole. */
public final class ModelTest {
    private static final int RUNS = 400;
    private static final int CALLS = 512;

    /** The document, word by word, over the library's maps and sets. */
    private static final class Model {
        final List<Integer> parents = new ArrayList<>();
        final List<Integer> fields = new ArrayList<>();
        final List<int[]> methods = new ArrayList<>();
        final List<int[]> statements = new ArrayList<>();
        final List<Integer> siteClasses = new ArrayList<>();
        final Map<Integer, Integer> siteOfStatement = new HashMap<>();
        int mode = 0;
        List<Map<String, Set<Integer>>> all = null;
        Run latest = null;

        private void changed() {
            all = null;
            latest = null;
        }

        private static boolean in(int number, int size) {
            return 0 <= number && number < size;
        }

        private boolean name(int method, int name) {
            return in(method, methods.size()) && in(name, 6);
        }

        private boolean under(int cls, int upper) {
            return cls == upper || parents.get(cls) != -1 && under(parents.get(cls), upper);
        }

        private boolean siteHas(int site, int field) {
            return under(siteClasses.get(site), fields.get(field));
        }

        private int found(int cls, int signature) {
            for (int m = 0; m < methods.size(); m++) {
                if (methods.get(m)[0] == cls && methods.get(m)[1] == signature) {
                    return m;
                }
            }
            return parents.get(cls) == -1 ? -1 : found(parents.get(cls), signature);
        }

        int cls(int parent) {
            if (parent != -1 && !in(parent, parents.size())) return -1;
            if (parents.size() == 8) return -4;
            changed();
            parents.add(parent);
            return parents.size() - 1;
        }

        int field(int cls) {
            if (!in(cls, parents.size())) return -1;
            if (fields.size() == 8) return -4;
            changed();
            fields.add(cls);
            return fields.size() - 1;
        }

        int method(int cls, int signature) {
            if (!in(cls, parents.size())) return -1;
            if (!in(signature, 4)) return -2;
            for (int[] m : methods) {
                if (m[0] == cls && m[1] == signature) return -3;
            }
            if (methods.size() == 10) return -4;
            changed();
            methods.add(new int[] {cls, signature});
            return methods.size() - 1;
        }

        /** For each KIND what p, q, r, s, t are: a NAME, CLASS, FIELD, STATIC, SIGNATURE, or nothing. */
        private static final String[] SHAPES =
            {"nc...", "nn...", "nnf..", "nnf..", "nnc..", "ns...", "sn...", "nngnn", "nn...", "nn..."};

        int statement(int... a) {
            if (!in(a[0], methods.size())) return -1;
            if (!in(a[1], 10)) return -2;
            boolean badSignature = false;
            for (int i = 0; i < 5; i++) {
                int number = a[2 + i];
                switch (SHAPES[a[1]].charAt(i)) {
                    case 'n' -> { if (!in(number, 6)) return -1; }
                    case 'c' -> { if (!in(number, parents.size())) return -1; }
                    case 'f' -> { if (!in(number, fields.size())) return -1; }
                    case 's' -> { if (!in(number, 4)) return -1; }
                    case 'g' -> badSignature = !in(number, 4);
                    default -> { }
                }
            }
            if (badSignature) return -2;
            if (statements.size() == 60 || a[1] == 0 && siteClasses.size() == 20) return -4;
            changed();
            if (a[1] == 0) {
                siteOfStatement.put(statements.size(), siteClasses.size());
                siteClasses.add(a[3]);
            }
            statements.add(a.clone());
            return statements.size() - 1;
        }

        int mode(int m) {
            if (!in(m, 2)) return -2;
            int was = mode;
            mode = m;
            changed();
            return was;
        }

        int clear() {
            int had = statements.size();
            changed();
            parents.clear();
            fields.clear();
            methods.clear();
            statements.clear();
            siteClasses.clear();
            siteOfStatement.clear();
            return had;
        }

        private static Set<Integer> look(Map<String, Set<Integer>> round, String place) {
            return round.getOrDefault(place, Set.of());
        }

        private static void put(Map<String, Set<Integer>> round, String place, Set<Integer> sites) {
            if (!sites.isEmpty()) {
                round.computeIfAbsent(place, k -> new TreeSet<>()).addAll(sites);
            }
        }

        private static String nameKey(int method, int context, int name) {
            return "name " + method + " " + context + " " + name;
        }

        private Map<String, Set<Integer>> next(Map<String, Set<Integer>> old) {
            Map<String, Set<Integer>> now = new HashMap<>();
            old.forEach((place, sites) -> now.put(place, new TreeSet<>(sites)));
            for (int i = 0; i < statements.size(); i++) {
                int method = statements.get(i)[0];
                for (int context : look(old, "reached " + method)) {
                    effect(i, context, old, now);
                }
            }
            return now;
        }

        private void effect(int number, int context, Map<String, Set<Integer>> old, Map<String, Set<Integer>> now) {
            int[] a = statements.get(number);
            String p = nameKey(a[0], context, a[2]);
            String q = nameKey(a[0], context, a[3]);
            switch (a[1]) {
                case 0 -> put(now, p, Set.of(siteOfStatement.get(number)));
                case 1 -> put(now, p, look(old, q));
                case 2 -> {
                    for (int o : look(old, q)) {
                        if (siteHas(o, a[4])) put(now, p, look(old, "field " + o + " " + a[4]));
                    }
                }
                case 3 -> {
                    for (int o : look(old, p)) {
                        if (siteHas(o, a[4])) put(now, "field " + o + " " + a[4], look(old, q));
                    }
                }
                case 4 -> {
                    for (int o : look(old, q)) {
                        if (under(siteClasses.get(o), a[4])) put(now, p, Set.of(o));
                    }
                }
                case 5 -> put(now, p, look(old, "static " + a[3]));
                case 6 -> put(now, "static " + a[2], look(old, q));
                case 7 -> {
                    for (int o : look(old, q)) {
                        int m = found(siteClasses.get(o), a[4]);
                        if (m == -1) continue;
                        int c = mode == 0 ? 0 : 1 + o;
                        put(now, "reached " + m, Set.of(c));
                        put(now, nameKey(m, c, 0), Set.of(o));
                        put(now, nameKey(m, c, 1), look(old, nameKey(a[0], context, a[5])));
                        put(now, nameKey(m, c, 2), look(old, nameKey(a[0], context, a[6])));
                        put(now, p, look(old, nameKey(m, c, 5)));
                    }
                }
                case 8 -> {
                    for (int o : look(old, q)) put(now, p, look(old, "element " + o));
                }
                default -> {
                    for (int o : look(old, p)) put(now, "element " + o, look(old, q));
                }
            }
        }

        private List<Map<String, Set<Integer>>> all() {
            if (all == null) {
                all = new ArrayList<>();
                Map<String, Set<Integer>> round = new HashMap<>();
                if (!methods.isEmpty()) {
                    put(round, "reached 0", Set.of(0));
                }
                Map<String, Set<Integer>> after = next(round);
                all.add(round);
                while (!after.equals(round)) {
                    all.add(after);
                    round = after;
                    after = next(round);
                }
            }
            return all;
        }

        private Map<String, Set<Integer>> told() {
            return all().get(all().size() - 1);
        }

        private static int bits(Set<Integer> set) {
            int bits = 0;
            for (int i : set) {
                bits |= 1 << i;
            }
            return bits;
        }

        private Set<Integer> everywhere(Map<String, Set<Integer>> round, int method, int name) {
            Set<Integer> sites = new HashSet<>();
            for (int c = 0; c <= siteClasses.size(); c++) {
                sites.addAll(look(round, nameKey(method, c, name)));
            }
            return sites;
        }

        int points(int method, int context, int name) {
            if (!name(method, name)) return -1;
            if (context == -1) return bits(everywhere(told(), method, name));
            if (!in(context, mode == 0 ? 1 : 1 + siteClasses.size())) return -1;
            return bits(look(told(), nameKey(method, context, name)));
        }

        int inField(int site, int field) {
            if (!in(site, siteClasses.size()) || !in(field, fields.size())) return -1;
            return bits(look(told(), "field " + site + " " + field));
        }

        int element(int site) {
            return !in(site, siteClasses.size()) ? -1 : bits(look(told(), "element " + site));
        }

        int inStatic(int s) {
            return !in(s, 4) ? -1 : bits(look(told(), "static " + s));
        }

        int reached(int method) {
            return !in(method, methods.size()) ? -1 : look(told(), "reached " + method).size();
        }

        int may(int statement) {
            if (!in(statement, statements.size())) return -1;
            int[] a = statements.get(statement);
            if (a[1] != 4 && a[1] != 7) return -3;
            Set<Integer> answer = new HashSet<>();
            for (int o : everywhere(told(), a[0], a[3])) {
                int m = a[1] == 7 ? found(siteClasses.get(o), a[4]) : -1;
                if (m != -1) answer.add(m);
                if (a[1] == 4 && !under(siteClasses.get(o), a[4])) answer.add(o);
            }
            return bits(answer);
        }

        int alias(int m1, int n1, int m2, int n2) {
            if (!name(m1, n1) || !name(m2, n2)) return -1;
            Set<Integer> both = everywhere(told(), m1, n1);
            both.retainAll(everywhere(told(), m2, n2));
            return both.isEmpty() ? 0 : 1;
        }

        int rounds() {
            return all().size() - 1;
        }

        int when(int method, int name, int site) {
            if (!name(method, name) || !in(site, siteClasses.size())) return -1;
            for (int round = 0; round < all().size(); round++) {
                if (everywhere(all().get(round), method, name).contains(site)) return round;
            }
            return -3;
        }

        int run(int seed, int steps) {
            if (!in(steps, 301)) return -2;
            if (methods.isEmpty()) return -3;
            latest = new Run(this);
            return latest.go(seed, steps) ? 1 : 0;
        }

        int met(int method, int name) {
            if (!name(method, name)) return -1;
            return latest == null ? 0 : bits(latest.met.getOrDefault(method + " " + name, Set.of()));
        }

        int ran(int what) {
            if (!in(what, 3)) return -2;
            if (latest == null) return 0;
            return what == 0 ? latest.things.size() : what == 1 ? latest.pile.size() : latest.calls;
        }
    }

    private static final class Thing {
        final int site;
        final Map<Integer, Thing> fields = new HashMap<>();
        Thing element = null;

        Thing(int site) {
            this.site = site;
        }
    }

    private static final class Frame {
        final int method;
        final int context;
        final int target;
        final Thing[] names = new Thing[6];

        Frame(int method, int context, int target) {
            this.method = method;
            this.context = context;
            this.target = target;
        }
    }

    /** A RUN that looks at everything there is after each STEP. */
    private static final class Run {
        final Model model;
        final List<Thing> things = new ArrayList<>();
        final Deque<Frame> pile = new ArrayDeque<>();
        final Thing[] statics = new Thing[4];
        final Map<String, Set<Integer>> met = new HashMap<>();
        int calls = 0;

        Run(Model model) {
            this.model = model;
        }

        boolean go(int seed, int steps) {
            pile.push(new Frame(0, 0, -1));
            long z = seed & 0xffffffffL;
            boolean holds = true;
            for (int i = 0; i < steps; i++) {
                z = (z * 1664525L + 1013904223L) & 0xffffffffL;
                step(z / 2);
                holds &= look();
            }
            return holds;
        }

        private void step(long draw) {
            Frame top = pile.peek();
            List<Integer> own = new ArrayList<>();
            for (int i = 0; i < model.statements.size(); i++) {
                if (model.statements.get(i)[0] == top.method) own.add(i);
            }
            int t = (int) (draw % (own.size() + 1));
            if (t < own.size()) {
                act(own.get(t), top);
            } else if (pile.size() > 1) {
                pile.pop();
                pile.peek().names[top.target] = top.names[5];
            }
        }

        private void act(int number, Frame top) {
            int[] a = model.statements.get(number);
            Thing[] n = top.names;
            switch (a[1]) {
                case 0 -> {
                    if (things.size() < 30) {
                        n[a[2]] = new Thing(model.siteOfStatement.get(number));
                        things.add(n[a[2]]);
                    }
                }
                case 1 -> n[a[2]] = n[a[3]];
                case 2 -> {
                    Thing q = n[a[3]];
                    if (q != null && model.siteHas(q.site, a[4])) n[a[2]] = q.fields.get(a[4]);
                }
                case 3 -> {
                    Thing p = n[a[2]];
                    if (p != null && model.siteHas(p.site, a[4])) p.fields.put(a[4], n[a[3]]);
                }
                case 4 -> {
                    Thing q = n[a[3]];
                    if (q == null || model.under(model.siteClasses.get(q.site), a[4])) n[a[2]] = q;
                }
                case 5 -> n[a[2]] = statics[a[3]];
                case 6 -> statics[a[2]] = n[a[3]];
                case 7 -> call(a, n);
                case 8 -> {
                    if (n[a[3]] != null) n[a[2]] = n[a[3]].element;
                }
                default -> {
                    if (n[a[2]] != null) n[a[2]].element = n[a[3]];
                }
            }
        }

        private void call(int[] a, Thing[] n) {
            Thing q = n[a[3]];
            if (q == null || pile.size() == 10) return;
            int m = model.found(model.siteClasses.get(q.site), a[4]);
            if (m == -1) return;
            Frame made = new Frame(m, model.mode == 0 ? 0 : 1 + q.site, a[2]);
            made.names[0] = q;
            made.names[1] = n[a[5]];
            made.names[2] = n[a[6]];
            pile.push(made);
            calls++;
        }

        private boolean inSet(Thing thing, String place) {
            return thing == null || Model.look(model.told(), place).contains(thing.site);
        }

        private boolean look() {
            boolean holds = true;
            Frame top = pile.peek();
            for (int i = 0; i < 6; i++) {
                Thing thing = top.names[i];
                if (thing != null) {
                    met.computeIfAbsent(top.method + " " + i, k -> new HashSet<>()).add(thing.site);
                }
                holds &= inSet(thing, Model.nameKey(top.method, top.context, i));
            }
            for (int i = 0; i < 4; i++) {
                holds &= inSet(statics[i], "static " + i);
            }
            for (Thing thing : things) {
                holds &= inSet(thing.element, "element " + thing.site);
                for (Map.Entry<Integer, Thing> slot : thing.fields.entrySet()) {
                    holds &= inSet(slot.getValue(), "field " + thing.site + " " + slot.getKey());
                }
            }
            return holds;
        }
    }

    /** Draws numbers that mostly are there, now and then just outside or far away. */
    private static final class Draw {
        final Random random;
        final int oddOneIn;
        /** With few NAMES and FIELDS in use, more of what is written is read again. */
        final int few;

        Draw(long seed) {
            random = new Random(seed);
            oddOneIn = 4 + random.nextInt(60);
            few = 1 + random.nextInt(6);
        }

        int name() {
            return random.nextInt(6) == 0 ? below(6) : below(few);
        }

        int member(int size) {
            return random.nextInt(6) == 0 ? below(size) : below(Math.min(few, size));
        }

        int below(int size) {
            if (random.nextInt(oddOneIn) == 0 || size <= 0) {
                int[] odd = {-1, size, -2, size + 1, Integer.MAX_VALUE, Integer.MIN_VALUE, random.nextInt()};
                return odd[random.nextInt(odd.length)];
            }
            return random.nextInt(size);
        }
    }

    private static int call(PointsToRounds x, int which, int[] a) {
        return switch (which) {
            case 0 -> x.cls(a[0]);
            case 1 -> x.field(a[0]);
            case 2 -> x.method(a[0], a[1]);
            case 3 -> x.statement(a[0], a[1], a[2], a[3], a[4], a[5], a[6]);
            case 4 -> x.mode(a[0]);
            case 5 -> x.clear();
            case 6 -> x.points(a[0], a[1], a[2]);
            case 7 -> x.inField(a[0], a[1]);
            case 8 -> x.element(a[0]);
            case 9 -> x.inStatic(a[0]);
            case 10 -> x.reached(a[0]);
            case 11 -> x.may(a[0]);
            case 12 -> x.alias(a[0], a[1], a[2], a[3]);
            case 13 -> x.rounds();
            case 14 -> x.when(a[0], a[1], a[2]);
            case 15 -> x.run(a[0], a[1]);
            case 16 -> x.met(a[0], a[1]);
            default -> x.ran(a[0]);
        };
    }

    private static int call(Model x, int which, int[] a) {
        return switch (which) {
            case 0 -> x.cls(a[0]);
            case 1 -> x.field(a[0]);
            case 2 -> x.method(a[0], a[1]);
            case 3 -> x.statement(a);
            case 4 -> x.mode(a[0]);
            case 5 -> x.clear();
            case 6 -> x.points(a[0], a[1], a[2]);
            case 7 -> x.inField(a[0], a[1]);
            case 8 -> x.element(a[0]);
            case 9 -> x.inStatic(a[0]);
            case 10 -> x.reached(a[0]);
            case 11 -> x.may(a[0]);
            case 12 -> x.alias(a[0], a[1], a[2], a[3]);
            case 13 -> x.rounds();
            case 14 -> x.when(a[0], a[1], a[2]);
            case 15 -> x.run(a[0], a[1]);
            case 16 -> x.met(a[0], a[1]);
            default -> x.ran(a[0]);
        };
    }

    private static final String[] NAMES = {"cls", "field", "method", "statement", "mode", "clear", "points",
        "inField", "element", "inStatic", "reached", "may", "alias", "rounds", "when", "run", "met", "ran"};

    private static int[] statementFor(Model m, Draw d) {
        int kind = d.random.nextInt(5) == 0 ? 0 : d.random.nextInt(5) == 0 ? 7 : d.below(10);
        int[] a = {d.member(m.methods.size()), kind, 0, 0, 0, 0, 0};
        for (int i = 0; i < 5; i++) {
            char shape = kind >= 0 && kind < 10 ? Model.SHAPES[kind].charAt(i) : '.';
            a[2 + i] = switch (shape) {
                case 'n' -> d.name();
                case 'c' -> d.below(m.parents.size());
                case 'f' -> d.member(m.fields.size());
                case 's', 'g' -> d.member(4);
                default -> d.random.nextInt();
            };
        }
        return a;
    }

    private static int[] argumentsFor(int which, Model m, Draw d) {
        int methods = m.methods.size();
        int sites = m.siteClasses.size();
        return switch (which) {
            case 0 -> new int[] {d.below(m.parents.size() + 1) - 1};
            case 1 -> new int[] {d.below(m.parents.size())};
            case 2 -> new int[] {d.below(m.parents.size()), d.below(4)};
            case 3 -> statementFor(m, d);
            case 4 -> new int[] {d.below(2)};
            case 6 -> new int[] {d.below(methods), d.below(2 + m.mode * sites) - 1, d.below(6)};
            case 7 -> new int[] {d.below(sites), d.below(m.fields.size())};
            case 8 -> new int[] {d.below(sites)};
            case 9 -> new int[] {d.below(4)};
            case 10 -> new int[] {d.below(methods)};
            case 11 -> new int[] {d.below(m.statements.size())};
            case 12 -> new int[] {d.below(methods), d.below(6), d.below(methods), d.below(6)};
            case 14 -> new int[] {d.below(methods), d.below(6), d.below(sites)};
            case 15 -> new int[] {d.random.nextInt(), d.below(301)};
            case 16 -> new int[] {d.below(methods), d.below(6)};
            case 17 -> new int[] {d.below(3)};
            default -> new int[] {};
        };
    }

    /** Early calls mostly build, later ones mostly look; a clear starts the building again. */
    private static int chooseCall(int age, Draw d) {
        int dice = d.random.nextInt(1000);
        if (dice < 3) return 5;
        if (dice < 20) return 4;
        if (age < 24) return d.random.nextInt(3);
        if (age < 100 && dice < 900) return 3;
        if (dice < 60) return d.random.nextInt(4);
        return 6 + d.random.nextInt(12);
    }

    private static boolean agrees(int run) {
        Draw d = new Draw(run);
        Model model = new Model();
        PointsToRounds x = new PointsToRounds();
        int age = 0;
        for (int i = 0; i < CALLS; i++) {
            int which = chooseCall(age, d);
            int[] a = argumentsFor(which, model, d);
            int want = call(model, which, a);
            int got = call(x, which, a);
            if (got != want) {
                System.out.println("run " + run + ", call " + i + ": " + NAMES[which] + Arrays.toString(a)
                    + " answered " + got + ", due is " + want);
                return false;
            }
            age = which == 5 ? 0 : age + 1;
        }
        return true;
    }

    public static void main(String[] args) {
        int wrong = 0;
        for (int run = 0; run < RUNS; run++) {
            wrong += agrees(run) ? 0 : 1;
        }
        System.out.println(wrong == 0 ? "all " + RUNS + " runs agree" : wrong + " runs do not agree");
        if (wrong != 0) {
            System.exit(1);
        }
    }
}
