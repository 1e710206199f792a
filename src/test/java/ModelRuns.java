import java.util.ArrayList;
import java.util.List;
import java.util.Map;
import java.util.TreeMap;

// Long fixed runs of calls, each compared with a model that is built from maps and objects and
// follows the document's terms: what a transaction has written stays with the transaction, and
// a store in doubt keeps the transaction itself.
public final class ModelRuns {
    private static final int RUNS = 3000;
    private static final int CALLS = 512;
    // The calls of compareAll, which count among the 512 too.
    private static final int COMPARING = 106;
    private static final int BAD = -1, NONE = -2, BUSY = -3, DOWN = -4, DOUBT = -5, DOOMED = -6, FULL = -7;

    private static final class Work {
        boolean doomed;
        boolean toBeDone;
        // Per store: key to new value, null for removed.
        final List<Map<Integer, Integer>> wrote = new ArrayList<>();
        Work() {
            for (int s = 0; s < 3; s++) {
                wrote.add(new TreeMap<>());
            }
        }
        void clear() {
            for (Map<Integer, Integer> w : wrote) {
                w.clear();
            }
        }
    }

    private static final class Store {
        boolean up = true;
        Work doubt;
        final TreeMap<Integer, Integer> contents = new TreeMap<>();
    }

    private static final class Model {
        final Store[] stores = {new Store(), new Store(), new Store()};
        final Work[] running = new Work[4];
        boolean leader = true;

        boolean good(int t) { return t >= 0 && t <= 3 && running[t] != null; }
        boolean goodStore(int s) { return s >= 0 && s <= 2; }

        int begin() {
            if (!leader) { return DOWN; }
            int t = 0;
            while (t < 4 && running[t] != null) { t++; }
            if (t == 4) { return FULL; }
            running[t] = new Work();
            return t;
        }

        boolean isDoubtful(int s, int key) {
            return stores[s].doubt != null && stores[s].doubt.wrote.get(s).containsKey(key);
        }

        Integer seen(int t, int s, int key) {
            Map<Integer, Integer> own = running[t].wrote.get(s);
            return own.containsKey(key) ? own.get(key) : stores[s].contents.get(key);
        }

        int write(int t, int code, int value, boolean removing) {
            if (!good(t)) { return BAD; }
            if (code < 0 || code > 95) { return BAD; }
            if (!removing && (value < 0 || value > 999)) { return BAD; }
            int s = code >> 5;
            int key = code & 31;
            if (running[t].doomed) { return DOOMED; }
            if (!stores[s].up) { return DOWN; }
            if (isDoubtful(s, key)) { return DOUBT; }
            for (int other = 0; other < 4; other++) {
                if (other != t && running[other] != null && running[other].wrote.get(s).containsKey(key)) { return BUSY; }
            }
            Map<Integer, Integer> own = running[t].wrote.get(s);
            if (own.size() == 6 && !own.containsKey(key)) { return FULL; }
            if (removing && seen(t, s, key) == null) { return NONE; }
            own.put(key, removing ? null : (Integer) value);
            return own.size();
        }

        int get(int t, int code) {
            if (!good(t) || code < 0 || code > 95) { return BAD; }
            if (running[t].doomed) { return DOOMED; }
            if (!stores[code >> 5].up) { return DOWN; }
            if (isDoubtful(code >> 5, code & 31)) { return DOUBT; }
            Integer v = seen(t, code >> 5, code & 31);
            return v == null ? NONE : v;
        }

        void apply(Work w, int s) {
            for (Map.Entry<Integer, Integer> e : w.wrote.get(s).entrySet()) {
                if (e.getValue() == null) {
                    stores[s].contents.remove(e.getKey());
                } else {
                    stores[s].contents.put(e.getKey(), e.getValue());
                }
            }
        }

        void resolve() {
            for (int s = 0; s < 3; s++) {
                Store store = stores[s];
                if (leader && store.up && store.doubt != null) {
                    if (store.doubt.toBeDone) { apply(store.doubt, s); }
                    store.doubt = null;
                }
            }
        }

        int commit(int t, int kind, int store) {
            if (!good(t) || kind < 0 || kind > 5 || !goodStore(store)) { return BAD; }
            Work w = running[t];
            running[t] = null;
            if (w.doomed) { return DOOMED; }
            boolean inP = !w.wrote.get(store).isEmpty();
            int k = (kind == 3 || kind == 4) && !inP ? 0 : kind;
            w.toBeDone = k != 1 && k != 4;
            for (int s = 0; s < 3; s++) {
                if (w.wrote.get(s).isEmpty()) { continue; }
                if (k == 1 || k == 2 || k == 5 || (k == 3 && s == store)) {
                    if (stores[s].doubt != null) { throw new IllegalStateException("in doubt about two"); }
                    stores[s].doubt = w;
                } else if (w.toBeDone) {
                    apply(w, s);
                }
            }
            if (k == 1 || k == 2 || k == 5) { crashLeader(); }
            if (k == 3 || k == 4 || k == 5) { crash(store); }
            return k == 0 || k == 3 ? 1 : k == 4 ? 0 : DOUBT;
        }

        int abort(int t) {
            if (!good(t)) { return BAD; }
            int held = 0;
            for (Map<Integer, Integer> m : running[t].wrote) { held += m.size(); }
            running[t] = null;
            return held;
        }

        int status(int t) {
            if (t < 0 || t > 3) { return BAD; }
            return running[t] == null ? 0 : running[t].doomed ? 2 : 1;
        }

        int written(int t, int s) {
            return good(t) && goodStore(s) ? running[t].wrote.get(s).size() : BAD;
        }

        int crash(int s) {
            if (!goodStore(s)) { return BAD; }
            if (!stores[s].up) { return DOWN; }
            stores[s].up = false;
            int n = 0;
            for (Work w : running) {
                if (w != null && !w.wrote.get(s).isEmpty()) {
                    w.doomed = true;
                    w.clear();
                    n++;
                }
            }
            return n;
        }

        int start(int s) {
            if (!goodStore(s)) { return BAD; }
            if (stores[s].up) { return 0; }
            stores[s].up = true;
            resolve();
            return 1;
        }

        int crashLeader() {
            if (!leader) { return DOWN; }
            leader = false;
            int n = 0;
            for (int t = 0; t < 4; t++) {
                if (running[t] != null) { n++; }
                running[t] = null;
            }
            return n;
        }

        int startLeader() {
            if (leader) { return 0; }
            leader = true;
            resolve();
            return 1;
        }

        int isUp(int s) {
            if (s == 3) { return leader ? 1 : 0; }
            return goodStore(s) ? (stores[s].up ? 1 : 0) : BAD;
        }

        int look(int code) {
            if (code < 0 || code > 95) { return BAD; }
            if (!stores[code >> 5].up) { return DOWN; }
            if (isDoubtful(code >> 5, code & 31)) { return DOUBT; }
            return stores[code >> 5].contents.getOrDefault(code & 31, NONE);
        }

        int ask(int what, int s, int after) {
            if (!goodStore(s)) { return BAD; }
            if (!stores[s].up) { return DOWN; }
            switch (what) {
                case 0: return stores[s].contents.size();
                case 1: {
                    Integer key = stores[s].contents.higherKey(after);
                    return key == null ? NONE : key;
                }
                case 2: {
                    int sum = 0;
                    for (int v : stores[s].contents.values()) { sum += v; }
                    return sum;
                }
                default: return stores[s].doubt == null ? 0 : stores[s].doubt.wrote.get(s).size();
            }
        }
    }

    private static long seed;
    private static int wrong = 0;

    private static int pick(int n) {
        seed = seed * 6364136223846793005L + 1442695040888963407L;
        return (int) ((seed >>> 33) % n);
    }

    // Mostly a number of 0 .. n - 1, now and then one beside that range.
    private static int near(int n) {
        int p = pick(40);
        if (p == 0) { return -1; }
        if (p == 1) { return n; }
        if (p == 2) { return pick(2) == 0 ? Integer.MIN_VALUE : Integer.MAX_VALUE; }
        return pick(n);
    }

    // Few keys make the runs meet held keys often, many make them meet FULL.
    private static int someCode(int keys) {
        return pick(30) == 0 ? near(96) : 32 * pick(3) + pick(keys);
    }

    private static void due(int run, String call, int got, int want) {
        if (got != want) {
            wrong++;
            if (wrong < 20) { System.out.println("run " + run + ": " + call + " answered " + got + ", due is " + want); }
        }
    }

    private static void step(int run, VolumeCommit x, Model m, int keys, int crashes) {
        int t = near(4);
        int s = near(3);
        int code = someCode(keys);
        int p = pick(100);
        if (p < 12) { due(run, "begin()", x.begin(), m.begin()); }
        else if (p < 45) { int v = near(1000); due(run, "put(" + t + ", " + code + ", " + v + ")", x.put(t, code, v), m.write(t, code, v, false)); }
        else if (p < 55) { due(run, "remove(" + t + ", " + code + ")", x.remove(t, code), m.write(t, code, 0, true)); }
        else if (p < 60) { due(run, "get(" + t + ", " + code + ")", x.get(t, code), m.get(t, code)); }
        else if (p < 68) {
            int kind = pick(100) < crashes ? near(6) : 0;
            due(run, "commit(" + t + ", " + kind + ", " + s + ")", x.commit(t, kind, s, near(9)), m.commit(t, kind, s));
        }
        else if (p < 70) { due(run, "abort(" + t + ")", x.abort(t), m.abort(t)); }
        else if (p < 73) { if (pick(100) < crashes) { due(run, "crash(" + s + ")", x.crash(s), m.crash(s)); } }
        else if (p < 79) { due(run, "start(" + s + ")", x.start(s), m.start(s)); }
        else if (p < 80) { if (pick(100) < crashes) { due(run, "crashLeader()", x.crashLeader(), m.crashLeader()); } }
        else if (p < 85) { due(run, "startLeader()", x.startLeader(), m.startLeader()); }
        else if (p < 86) { x.idle(s, near(5)); }
        else if (p < 87) { due(run, "faults()", x.faults(), 0); }
        else { question(run, x, m, t, s, code); }
    }

    private static void question(int run, VolumeCommit x, Model m, int t, int s, int code) {
        int after = near(32) - pick(2);
        switch (pick(8)) {
            case 0: due(run, "status(" + t + ")", x.status(t), m.status(t)); break;
            case 1: due(run, "written(" + t + ", " + s + ")", x.written(t, s), m.written(t, s)); break;
            case 2: { int u = near(4); due(run, "isUp(" + u + ")", x.isUp(u), m.isUp(u)); break; }
            case 3: due(run, "look(" + code + ")", x.look(code), m.look(code)); break;
            case 4: due(run, "count(" + s + ")", x.count(s), m.ask(0, s, 0)); break;
            case 5: due(run, "next(" + s + ", " + after + ")", x.next(s, after), m.ask(1, s, after)); break;
            case 6: due(run, "total(" + s + ")", x.total(s), m.ask(2, s, 0)); break;
            default: due(run, "doubtful(" + s + ")", x.doubtful(s), m.ask(3, s, 0)); break;
        }
    }

    // Questions change nothing, so the whole state may be asked for at the end of a run.
    private static void compareAll(int run, VolumeCommit x, Model m) {
        for (int t = 0; t < 4; t++) {
            due(run, "status(" + t + ")", x.status(t), m.status(t));
        }
        for (int code = 0; code < 96; code++) {
            due(run, "look(" + code + ")", x.look(code), m.look(code));
        }
        for (int s = 0; s < 3; s++) {
            due(run, "doubtful(" + s + ")", x.doubtful(s), m.ask(3, s, 0));
            due(run, "count(" + s + ")", x.count(s), m.ask(0, s, 0));
        }
    }

    public static void main(String[] args) {
        for (int run = 1; run <= RUNS; run++) {
            seed = run;
            int keys = run % 2 == 0 ? 4 : 32;
            int crashes = 25 * (run % 5);
            boolean whole = run % 3 == 0;
            int calls = whole ? CALLS : 1 + pick(CALLS - COMPARING);
            VolumeCommit x = new VolumeCommit();
            Model m = new Model();
            for (int i = 0; i < calls; i++) {
                step(run, x, m, keys, crashes);
            }
            if (!whole) {
                compareAll(run, x, m);
            }
        }
        if (wrong > 0) {
            System.out.println(wrong + " wrong answers");
            System.exit(1);
        }
    }
}
