import java.util.function.Supplier;

// For each promise of the document: ordinary calls, the edges it names, and wrong inputs.
public final class PromiseTests {
    private static final int BAD = -1;
    private static final int NONE = -2;
    private static final int BUSY = -3;
    private static final int DOWN = -4;
    private static final int DOUBT = -5;
    private static final int DOOMED = -6;
    private static final int FULL = -7;
    private static final int LEAST = Integer.MIN_VALUE;
    private static final int GREATEST = Integer.MAX_VALUE;
    private static final int LEADER = 3;

    private static final int[] WRONG_TRANSACTIONS = {-1, 4, 5, LEAST, GREATEST};
    private static final int[] WRONG_STORES = {-1, 3, 4, LEAST, GREATEST};
    private static final int[] WRONG_CODES = {-1, -32, 96, 97, 128, LEAST, GREATEST};
    private static final int[] WRONG_VALUES = {-1, -2, 1000, LEAST, GREATEST};

    private static int wrong = 0;
    private static int promise = 0;

    private static void due(String call, int got, int want) {
        if (got != want) {
            wrong++;
            System.out.println("promise " + promise + ": " + call + " answered " + got + ", due is " + want);
        }
    }

    private static int code(int store, int key) {
        return 32 * store + key;
    }

    // A new object with one transaction, 0, that has written nothing.
    private static VolumeCommit begun() {
        VolumeCommit x = new VolumeCommit();
        x.begin();
        return x;
    }

    // Values of key 1: 10, 20 and 30 in stores 0, 1 and 2; nothing runs.
    private static VolumeCommit filled() {
        VolumeCommit x = begun();
        x.put(0, code(0, 1), 10);
        x.put(0, code(1, 1), 20);
        x.put(0, code(2, 1), 30);
        x.commit(0, 0, 0, 0);
        return x;
    }

    // As filled; transaction 0 has then put 11 for key 1 and 5 for key 2 in stores 0 and 1.
    private static VolumeCommit writing() {
        VolumeCommit x = filled();
        x.begin();
        for (int store = 0; store < 2; store++) {
            x.put(0, code(store, 1), 11);
            x.put(0, code(store, 2), 5);
        }
        return x;
    }

    // As filled, with transaction 0 doomed by a crash of store 2, which is up again.
    private static VolumeCommit doomed() {
        VolumeCommit x = filled();
        x.begin();
        x.put(0, code(0, 1), 77);
        x.put(0, code(2, 1), 78);
        x.crash(2);
        x.start(2);
        return x;
    }

    private static void newObject() {
        promise = 1;
        VolumeCommit x = new VolumeCommit();
        for (int party = 0; party < 4; party++) {
            due("isUp(" + party + ")", x.isUp(party), 1);
        }
        for (int t = 0; t < 4; t++) {
            due("status(" + t + ")", x.status(t), 0);
        }
        for (int store = 0; store < 3; store++) {
            due("count(" + store + ")", x.count(store), 0);
            due("total(" + store + ")", x.total(store), 0);
            due("doubtful(" + store + ")", x.doubtful(store), 0);
            due("next(" + store + ", -1)", x.next(store, -1), NONE);
        }
        for (int code = 0; code < 96; code++) {
            due("look(" + code + ")", x.look(code), NONE);
        }
        filled();
        due("count(0) beside another object", x.count(0), 0);
        due("BAD", VolumeCommit.BAD, BAD);
        due("NONE", VolumeCommit.NONE, NONE);
        due("BUSY", VolumeCommit.BUSY, BUSY);
        due("DOWN", VolumeCommit.DOWN, DOWN);
        due("DOUBT", VolumeCommit.DOUBT, DOUBT);
        due("DOOMED", VolumeCommit.DOOMED, DOOMED);
        due("FULL", VolumeCommit.FULL, FULL);
    }

    private static void begin() {
        promise = 2;
        VolumeCommit x = new VolumeCommit();
        for (int t = 0; t < 4; t++) {
            due("begin()", x.begin(), t);
            due("status of the begun", x.status(t), 1);
            due("written by the begun", x.written(t, 0), 0);
        }
        due("begin() with four", x.begin(), FULL);
        x.abort(2);
        x.abort(1);
        due("begin() fills the least gap", x.begin(), 1);
        due("begin() fills the next gap", x.begin(), 2);
        x.crashLeader();
        due("begin() without leader", x.begin(), DOWN);
        due("status after refusal", x.status(0), 0);
        x.startLeader();
        due("begin() with leader", x.begin(), 0);

        VolumeCommit y = begun();
        y.put(0, 0, 1);
        y.begin();
        y.begin();
        y.begin();
        y.crash(0);
        due("begin() with a doomed one of four", y.begin(), FULL);
        y.crash(1);
        y.crash(2);
        y.abort(0);
        due("begin() with all stores down", y.begin(), 0);
        due("begun in the place of a doomed one", y.status(0), 1);
    }

    private static void put() {
        promise = 3;
        VolumeCommit x = filled();
        x.begin();
        x.begin();
        due("put", x.put(0, code(0, 1), 0), 1);
        due("get of own", x.get(0, code(0, 1)), 0);
        due("get of another", x.get(1, code(0, 1)), 10);
        due("look before commit", x.look(code(0, 1)), 10);
        due("put again", x.put(0, code(0, 1), 999), 1);
        due("get of own again", x.get(0, code(0, 1)), 999);
        due("put in other store", x.put(0, code(2, 31), 7), 1);
        due("put held by another", x.put(1, code(0, 1), 5), BUSY);
        due("put same key, other store", x.put(1, code(1, 1), 5), 1);
        for (int key = 2; key < 7; key++) {
            due("put key " + key, x.put(0, code(0, key), key), key);
        }
        due("put of a seventh key", x.put(0, code(0, 7), 7), FULL);
        due("written after refusal", x.written(0, 0), 6);
        due("put of one of six", x.put(0, code(0, 6), 8), 6);
        due("put in another store when full", x.put(0, code(1, 7), 7), 1);
        x.put(1, code(0, 9), 1);
        due("BUSY before FULL", x.put(0, code(0, 9), 1), BUSY);
        due("the six are each transaction's own", x.put(1, code(0, 10), 1), 2);
        wrongPuts();
    }

    private static void wrongPuts() {
        VolumeCommit x = begun();
        for (int t : WRONG_TRANSACTIONS) {
            due("put by " + t, x.put(t, 0, 0), BAD);
        }
        due("put by one not running", x.put(1, 0, 0), BAD);
        for (int code : WRONG_CODES) {
            due("put of code " + code, x.put(0, code, 0), BAD);
        }
        for (int value : WRONG_VALUES) {
            due("put of value " + value, x.put(0, 0, value), BAD);
        }
        due("written after refusals", x.written(0, 0), 0);
        due("put of least", x.put(0, 0, 0), 1);
        due("put of greatest", x.put(0, 95, 999), 1);
        x.crash(1);
        due("put in a store that is down", x.put(0, code(1, 0), 1), DOWN);
        due("BAD before DOWN", x.put(0, code(1, 0), 1000), BAD);
        x.crash(0);
        due("put by a doomed one", x.put(0, code(2, 0), 1), DOOMED);
        due("DOOMED before DOWN", x.put(0, code(1, 0), 1), DOOMED);
        due("BAD before DOOMED, value", x.put(0, code(2, 0), -1), BAD);
        due("BAD before DOOMED, code", x.put(0, 96, 1), BAD);

        VolumeCommit y = writing();
        y.commit(0, 2, 0, 0);
        due("put while the leader is down", y.put(0, code(0, 1), 1), BAD);
        y.startLeader();
        y.begin();
        due("put of a key no longer doubtful", y.put(0, code(0, 1), 1), 1);
    }

    private static void remove() {
        promise = 4;
        VolumeCommit x = filled();
        x.begin();
        x.begin();
        due("remove of a key without value", x.remove(0, code(0, 2)), NONE);
        due("written after refusal", x.written(0, 0), 0);
        due("remove", x.remove(0, code(0, 1)), 1);
        due("get of removed", x.get(0, code(0, 1)), NONE);
        due("get by another", x.get(1, code(0, 1)), 10);
        due("remove again", x.remove(0, code(0, 1)), NONE);
        due("still held", x.written(0, 0), 1);
        due("remove of held", x.remove(1, code(0, 1)), BUSY);
        x.put(0, code(0, 3), 4);
        due("remove of own new value", x.remove(0, code(0, 3)), 2);
        due("put of removed", x.put(0, code(0, 3), 9), 2);
        due("remove once more", x.remove(0, code(0, 3)), 2);
        due("removed key stays held", x.put(1, code(0, 3), 1), BUSY);
        due("NONE, not what another has put", x.remove(1, code(0, 9)), NONE);
        due("commit", x.commit(0, 0, 0, 0), 1);
        due("look of removed", x.look(code(0, 1)), NONE);
        due("look of put and removed", x.look(code(0, 3)), NONE);
        due("count", x.count(0), 0);
        wrongRemoves();
    }

    private static void wrongRemoves() {
        VolumeCommit x = filled();
        x.begin();
        for (int t : WRONG_TRANSACTIONS) {
            due("remove by " + t, x.remove(t, code(0, 1)), BAD);
        }
        due("remove by one not running", x.remove(1, code(0, 1)), BAD);
        for (int code : WRONG_CODES) {
            due("remove of code " + code, x.remove(0, code), BAD);
        }
        for (int key = 10; key < 16; key++) {
            x.put(0, code(0, key), 1);
        }
        due("remove of a seventh key", x.remove(0, code(0, 1)), FULL);
        due("FULL before NONE", x.remove(0, code(0, 2)), FULL);
        due("remove of one of six", x.remove(0, code(0, 10)), 6);
        due("NONE for one of six", x.remove(0, code(0, 10)), NONE);
        x.begin();
        x.put(1, code(0, 20), 1);
        due("BUSY before FULL and NONE", x.remove(0, code(0, 20)), BUSY);
        x.crash(1);
        due("remove in a store that is down", x.remove(0, code(1, 1)), DOWN);
        due("DOWN before NONE", x.remove(0, code(1, 2)), DOWN);
        x.crash(0);
        due("remove by a doomed one", x.remove(0, code(2, 1)), DOOMED);
        due("BAD before DOOMED", x.remove(0, -1), BAD);
    }

    private static void get() {
        promise = 5;
        VolumeCommit x = writing();
        x.begin();
        due("get of own", x.get(0, code(0, 1)), 11);
        due("get of own new key", x.get(0, code(1, 2)), 5);
        due("get of contents", x.get(0, code(2, 1)), 30);
        due("get of held by another", x.get(1, code(0, 1)), 10);
        due("get of new key of another", x.get(1, code(0, 2)), NONE);
        due("get of no value", x.get(0, code(2, 2)), NONE);
        for (int t : WRONG_TRANSACTIONS) {
            due("get by " + t, x.get(t, code(0, 1)), BAD);
        }
        due("get by one not running", x.get(2, code(0, 1)), BAD);
        for (int code : WRONG_CODES) {
            due("get of code " + code, x.get(0, code), BAD);
        }
        x.commit(0, 0, 0, 0);
        due("get of what another has done", x.get(1, code(0, 1)), 11);
        x.crash(2);
        due("get from a store that is down", x.get(1, code(2, 1)), DOWN);
        due("DOWN before NONE", x.get(1, code(2, 5)), DOWN);
        x.put(1, code(0, 7), 1);
        x.crash(0);
        due("get by a doomed one", x.get(1, code(1, 1)), DOOMED);
        due("DOOMED before DOWN", x.get(1, code(2, 1)), DOOMED);
        due("BAD before DOOMED", x.get(1, 96), BAD);
    }

    private static void commit() {
        promise = 6;
        for (int kind : new int[] {0, 3, 4}) {
            VolumeCommit x = writing();
            due("commit with store 2 outside, kind " + kind, x.commit(0, kind, 2, GREATEST), 1);
            due("store 2 stays up", x.isUp(2), 1);
            due("leader stays up", x.isUp(LEADER), 1);
            due("ended", x.status(0), 0);
            expectDone(x, 0);
            expectDone(x, 1);
            due("store 2 is as it was", x.look(code(2, 1)), 30);
        }
        VolumeCommit y = writing();
        due("kind 0 with store in P", y.commit(0, 0, 0, LEAST), 1);
        due("no crash", y.isUp(0), 1);
        commitWrongInputs();
        commitOfDoomed();
        commitLosingLeader();
        commitLosingReadyStore();
        commitLosingUnreadyStore();
        commitLosingLeaderAndStore();
        commitOfNothing();
    }

    private static void expectDone(VolumeCommit x, int store) {
        due("done: look at key 1 of " + store, x.look(code(store, 1)), 11);
        due("done: look at key 2 of " + store, x.look(code(store, 2)), 5);
        due("done: count of " + store, x.count(store), 2);
        due("done: doubtful of " + store, x.doubtful(store), 0);
    }

    private static void expectNotDone(VolumeCommit x, int store) {
        due("not done: look at key 1 of " + store, x.look(code(store, 1)), 10 * store + 10);
        due("not done: look at key 2 of " + store, x.look(code(store, 2)), NONE);
        due("not done: count of " + store, x.count(store), 1);
        due("not done: doubtful of " + store, x.doubtful(store), 0);
    }

    private static void expectInDoubt(VolumeCommit x, int store) {
        due("in doubt: look at key 1 of " + store, x.look(code(store, 1)), DOUBT);
        due("in doubt: look at key 2 of " + store, x.look(code(store, 2)), DOUBT);
        due("in doubt: count of " + store, x.count(store), 1);
        due("in doubt: doubtful of " + store, x.doubtful(store), 2);
    }

    private static void commitWrongInputs() {
        VolumeCommit x = writing();
        for (int t : WRONG_TRANSACTIONS) {
            due("commit of " + t, x.commit(t, 0, 0, 0), BAD);
        }
        due("commit of one not running", x.commit(1, 0, 0, 0), BAD);
        for (int kind : new int[] {-1, 6, 7, LEAST, GREATEST}) {
            due("commit of kind " + kind, x.commit(0, kind, 0, 0), BAD);
        }
        for (int store : WRONG_STORES) {
            for (int kind = 0; kind < 6; kind++) {
                due("commit with store " + store, x.commit(0, kind, store, 0), BAD);
            }
        }
        due("still running", x.status(0), 1);
        due("still holding", x.written(0, 0), 2);
        due("leader still up", x.isUp(LEADER), 1);
        VolumeCommit y = doomed();
        due("BAD before DOOMED, kind", y.commit(0, 6, 0, 0), BAD);
        due("BAD before DOOMED, store", y.commit(0, 0, 3, 0), BAD);
        due("still doomed", y.status(0), 2);
    }

    private static void commitOfDoomed() {
        for (int kind = 0; kind < 6; kind++) {
            VolumeCommit x = doomed();
            due("commit of a doomed one, kind " + kind, x.commit(0, kind, 0, 3), DOOMED);
            due("it has ended", x.status(0), 0);
            for (int party = 0; party < 4; party++) {
                due("nothing crashes", x.isUp(party), 1);
            }
            for (int store = 0; store < 3; store++) {
                expectNotDone(x, store);
            }
        }
    }

    private static void commitLosingLeader() {
        for (int kind = 1; kind <= 2; kind++) {
            VolumeCommit x = writing();
            x.begin();
            due("commit of kind " + kind, x.commit(0, kind, 2, -5), DOUBT);
            due("the leader is down", x.isUp(LEADER), 0);
            due("it has ended", x.status(0), 0);
            due("others have ended", x.status(1), 0);
            for (int store = 0; store < 3; store++) {
                due("stores are up", x.isUp(store), 1);
            }
            expectInDoubt(x, 0);
            expectInDoubt(x, 1);
            expectNotDone(x, 2);
            due("crash in doubt", x.crash(1), 0);
            due("start in doubt", x.start(1), 1);
            expectInDoubt(x, 1);
            x.crash(1);
            due("startLeader", x.startLeader(), 1);
            expectVerdict(x, 0, kind == 2);
            due("down and in doubt", x.doubtful(1), DOWN);
            x.crashLeader();
            x.start(1);
            expectInDoubt(x, 1);
            expectVerdict(x, 0, kind == 2);
            x.startLeader();
            expectVerdict(x, 1, kind == 2);
        }
        laterVerdictsLeaveEarlierOnes();
    }

    private static void expectVerdict(VolumeCommit x, int store, boolean done) {
        if (done) {
            expectDone(x, store);
        } else {
            expectNotDone(x, store);
        }
    }

    // A store that is down keeps its verdict while others get verdicts about later ones.
    private static void laterVerdictsLeaveEarlierOnes() {
        for (int first = 1; first <= 2; first++) {
            for (int second = 0; second < 6; second++) {
                VolumeCommit x = writing();
                x.commit(0, first, 0, 0);
                x.crash(0);
                x.startLeader();
                expectVerdict(x, 1, first == 2);
                x.begin();
                due("put in another store", x.put(0, code(2, 3), 3), 1);
                x.commit(0, second, 2, 0);
                x.startLeader();
                x.start(2);
                x.start(0);
                expectVerdict(x, 0, first == 2);
                boolean done = second != 1 && second != 4;
                due("the later one", x.look(code(2, 3)), done ? 3 : NONE);
            }
        }
    }

    private static void commitLosingReadyStore() {
        VolumeCommit x = writing();
        x.begin();
        x.put(1, code(0, 9), 9);
        x.put(1, code(2, 9), 9);
        x.begin();
        x.put(2, code(1, 9), 9);
        due("commit of kind 3", x.commit(0, 3, 0, 1), 1);
        due("the store is down", x.isUp(0), 0);
        due("the other store is up", x.isUp(1), 1);
        due("the leader is up", x.isUp(LEADER), 1);
        due("it has ended", x.status(0), 0);
        due("one that wrote in the store is doomed", x.status(1), 2);
        due("one that did not goes on", x.status(2), 1);
        due("the doomed one holds nothing", x.put(2, code(2, 9), 1), 1);
        expectDone(x, 1);
        due("start", x.start(0), 1);
        expectDone(x, 0);

        VolumeCommit y = writing();
        y.commit(0, 3, 0, 1);
        y.crashLeader();
        y.start(0);
        expectInDoubt(y, 0);
        y.startLeader();
        expectDone(y, 0);

        VolumeCommit z = filled();
        z.begin();
        z.remove(0, code(1, 1));
        due("kind 3 with a removal", z.commit(0, 3, 1, 0), 1);
        z.start(1);
        due("removed when it comes up", z.look(code(1, 1)), NONE);
    }

    private static void commitLosingUnreadyStore() {
        VolumeCommit x = writing();
        x.begin();
        x.put(1, code(0, 9), 9);
        x.begin();
        x.put(2, code(1, 9), 9);
        due("commit of kind 4", x.commit(0, 4, 0, 1), 0);
        due("the store is down", x.isUp(0), 0);
        due("the leader is up", x.isUp(LEADER), 1);
        due("it has ended", x.status(0), 0);
        due("one that wrote in the store is doomed", x.status(1), 2);
        due("one that did not goes on", x.status(2), 1);
        expectNotDone(x, 1);
        due("its keys are free", x.put(2, code(1, 1), 1), 2);
        x.crashLeader();
        x.start(0);
        expectNotDone(x, 0);
    }

    private static void commitLosingLeaderAndStore() {
        for (int store = 0; store < 3; store++) {
            VolumeCommit x = writing();
            x.begin();
            x.put(1, code(2, 9), 9);
            due("commit of kind 5", x.commit(0, 5, store, 0), DOUBT);
            due("the leader is down", x.isUp(LEADER), 0);
            due("it has ended", x.status(0), 0);
            due("the other has ended", x.status(1), 0);
            for (int s = 0; s < 3; s++) {
                due("isUp(" + s + ")", x.isUp(s), s == store ? 0 : 1);
            }
            x.start(store);
            expectInDoubt(x, 0);
            expectInDoubt(x, 1);
            expectNotDone(x, 2);
            x.crash(store);
            x.startLeader();
            x.start(store);
            expectDone(x, 0);
            expectDone(x, 1);
            expectNotDone(x, 2);
        }
    }

    private static void commitOfNothing() {
        int[] answers = {1, DOUBT, DOUBT, 1, 1, DOUBT};
        for (int kind = 0; kind < 6; kind++) {
            VolumeCommit x = begun();
            due("commit of nothing, kind " + kind, x.commit(0, kind, 1, 0), answers[kind]);
            due("leader", x.isUp(LEADER), answers[kind] == 1 ? 1 : 0);
            due("store", x.isUp(1), kind == 5 ? 0 : 1);
            due("doubtful", x.doubtful(0), 0);
            due("status", x.status(0), 0);
        }
    }

    private static void abort() {
        promise = 7;
        VolumeCommit x = writing();
        x.begin();
        x.put(1, code(2, 4), 4);
        due("abort", x.abort(0), 4);
        due("status", x.status(0), 0);
        expectNotDone(x, 0);
        expectNotDone(x, 1);
        due("another keeps its keys", x.written(1, 2), 1);
        due("keys are free", x.put(1, code(0, 1), 6), 1);
        due("abort again", x.abort(0), BAD);
        due("abort of another", x.abort(1), 2);
        x.begin();
        due("a new one starts empty", x.get(0, code(0, 2)), NONE);
        due("abort of an empty one", x.abort(0), 0);
        for (int t : WRONG_TRANSACTIONS) {
            due("abort of " + t, x.abort(t), BAD);
        }
        VolumeCommit y = doomed();
        due("abort of a doomed one", y.abort(0), 0);
        due("status of it", y.status(0), 0);
    }

    private static void status() {
        promise = 8;
        VolumeCommit x = doomed();
        x.begin();
        due("doomed", x.status(0), 2);
        due("running", x.status(1), 1);
        due("not running", x.status(2), 0);
        due("not running, last", x.status(3), 0);
        for (int t : WRONG_TRANSACTIONS) {
            due("status of " + t, x.status(t), BAD);
        }
        x.crashLeader();
        due("doomed has ended", x.status(0), 0);
        due("running has ended", x.status(1), 0);
    }

    private static void written() {
        promise = 9;
        VolumeCommit x = writing();
        x.begin();
        x.put(1, code(0, 20), 1);
        due("in store 0", x.written(0, 0), 2);
        due("in store 1", x.written(0, 1), 2);
        due("in store 2", x.written(0, 2), 0);
        due("by another", x.written(1, 0), 1);
        x.put(0, code(0, 2), 6);
        due("after a second put of a key", x.written(0, 0), 2);
        x.remove(0, code(2, 1));
        due("after a removal", x.written(0, 2), 1);
        for (int t : WRONG_TRANSACTIONS) {
            due("written by " + t, x.written(t, 0), BAD);
        }
        due("written by one not running", x.written(2, 0), BAD);
        for (int store : WRONG_STORES) {
            due("written in " + store, x.written(0, store), BAD);
        }
        x.crash(2);
        due("doomed: nothing in store 0", x.written(0, 0), 0);
        due("doomed: nothing in store 2", x.written(0, 2), 0);
        due("in a store that is down", x.written(1, 2), 0);
    }

    private static void crash() {
        promise = 10;
        VolumeCommit x = writing();
        x.begin();
        x.put(1, code(1, 9), 1);
        x.begin();
        x.put(2, code(2, 9), 1);
        x.begin();
        due("crash", x.crash(1), 2);
        due("isUp", x.isUp(1), 0);
        due("doomed", x.status(0), 2);
        due("doomed too", x.status(1), 2);
        due("wrote elsewhere", x.status(2), 1);
        due("wrote nothing", x.status(3), 1);
        due("crash again", x.crash(1), DOWN);
        due("keys of the doomed are free", x.put(3, code(0, 1), 1), 1);
        due("the doomed are not doomed twice", x.crash(0), 1);
        due("crash of one with one writer", x.crash(2), 1);
        x.start(1);
        due("contents come through", x.look(code(1, 1)), 20);
        due("nothing of the doomed is there", x.look(code(1, 2)), NONE);
        due("crash without writers", x.crash(1), 0);
        for (int store : WRONG_STORES) {
            due("crash of " + store, x.crash(store), BAD);
        }
        due("the leader is up", x.isUp(LEADER), 1);
    }

    private static void start() {
        promise = 11;
        VolumeCommit x = filled();
        due("start of one that is up", x.start(0), 0);
        x.crash(0);
        due("start", x.start(0), 1);
        due("isUp", x.isUp(0), 1);
        due("contents", x.look(code(0, 1)), 10);
        due("start again", x.start(0), 0);
        for (int store : WRONG_STORES) {
            due("start of " + store, x.start(store), BAD);
        }
        VolumeCommit y = doomed();
        due("start leaves the doomed doomed", y.status(0), 2);
        VolumeCommit z = writing();
        z.commit(0, 2, 0, 0);
        due("start of one in doubt that is up", z.start(0), 0);
        expectInDoubt(z, 0);
        z.crashLeader();
        z.crash(0);
        z.start(0);
        expectInDoubt(z, 0);
    }

    private static void crashLeader() {
        promise = 12;
        VolumeCommit x = writing();
        due("crashLeader", x.crashLeader(), 1);
        due("isUp", x.isUp(LEADER), 0);
        due("crashLeader again", x.crashLeader(), DOWN);
        for (int store = 0; store < 3; store++) {
            due("isUp of a store", x.isUp(store), 1);
            expectNotDone(x, store);
        }
        x.startLeader();
        expectNotDone(x, 0);
        due("crashLeader with none", x.crashLeader(), 0);
        VolumeCommit y = doomed();
        y.begin();
        y.begin();
        y.begin();
        due("crashLeader ends the doomed too", y.crashLeader(), 4);
        for (int t = 0; t < 4; t++) {
            due("status", y.status(t), 0);
        }
    }

    private static void startLeader() {
        promise = 13;
        VolumeCommit x = writing();
        due("startLeader when up", x.startLeader(), 0);
        due("transactions go on", x.status(0), 1);
        x.crashLeader();
        due("startLeader", x.startLeader(), 1);
        due("isUp", x.isUp(LEADER), 1);
        due("the ended stay ended", x.status(0), 0);
        due("startLeader again", x.startLeader(), 0);
        VolumeCommit y = writing();
        y.commit(0, 2, 0, 0);
        y.crash(2);
        y.startLeader();
        expectDone(y, 0);
        expectDone(y, 1);
        due("stores stay down", y.isUp(2), 0);
        y.begin();
        due("keys are free", y.put(0, code(0, 2), 1), 1);
    }

    private static void isUp() {
        promise = 14;
        VolumeCommit x = new VolumeCommit();
        for (int store = 0; store < 3; store++) {
            x.crash(store);
            for (int party = 0; party < 4; party++) {
                due("isUp(" + party + ")", x.isUp(party), party == store ? 0 : 1);
            }
            x.start(store);
        }
        x.crashLeader();
        for (int party = 0; party < 4; party++) {
            due("isUp(" + party + ") without leader", x.isUp(party), party == 3 ? 0 : 1);
        }
        for (int party : new int[] {-1, 4, 5, LEAST, GREATEST}) {
            due("isUp(" + party + ")", x.isUp(party), BAD);
        }
    }

    private static void idle() {
        promise = 15;
        int[] some = {LEAST, -1, 0, 1, 2, 3, 4, 100, GREATEST};
        Supplier<VolumeCommit> inDoubt = () -> {
            VolumeCommit x = writing();
            x.commit(0, 5, 1, 0);
            return x;
        };
        for (int store : some) {
            for (int steps : some) {
                VolumeCommit x = writing();
                x.idle(store, steps);
                due("written", x.written(0, 0), 2);
                due("look", x.look(code(0, 1)), 10);
                VolumeCommit y = inDoubt.get();
                y.idle(store, steps);
                expectInDoubt(y, 0);
                due("still down", y.isUp(1), 0);
                due("leader still down", y.isUp(LEADER), 0);
                y.startLeader();
                y.idle(store, steps);
                y.start(1);
                expectDone(y, 0);
                expectDone(y, 1);
            }
        }
    }

    private static void look() {
        promise = 16;
        VolumeCommit x = writing();
        due("look at held", x.look(code(0, 1)), 10);
        due("look at held without value", x.look(code(0, 2)), NONE);
        due("look at free", x.look(code(2, 1)), 30);
        for (int code : WRONG_CODES) {
            due("look(" + code + ")", x.look(code), BAD);
        }
        x.crash(2);
        due("look in a store that is down", x.look(code(2, 1)), DOWN);
        due("DOWN before NONE", x.look(code(2, 5)), DOWN);
        x.commit(0, 1, 0, 0);
        due("look at doubtful", x.look(code(0, 1)), DOUBT);
        due("DOUBT before NONE", x.look(code(0, 2)), DOUBT);
        due("look beside doubtful", x.look(code(0, 3)), NONE);
        x.crash(0);
        due("DOWN before DOUBT", x.look(code(0, 1)), DOWN);
        VolumeCommit y = begun();
        y.put(0, 0, 0);
        y.put(0, 95, 999);
        y.commit(0, 0, 0, 0);
        due("look at value 0", y.look(0), 0);
        due("look at the last code", y.look(95), 999);
    }

    private static void count() {
        promise = 17;
        VolumeCommit x = writing();
        due("count before commit", x.count(0), 1);
        x.commit(0, 0, 0, 0);
        due("count", x.count(0), 2);
        due("count of another", x.count(2), 1);
        x.begin();
        x.put(0, code(0, 31), 0);
        x.remove(0, code(0, 1));
        x.remove(0, code(0, 2));
        x.commit(0, 0, 0, 0);
        due("count with value 0 and removals", x.count(0), 1);
        for (int store : WRONG_STORES) {
            due("count(" + store + ")", x.count(store), BAD);
        }
        x.crash(0);
        due("count of one that is down", x.count(0), DOWN);
        VolumeCommit y = writing();
        y.commit(0, 2, 0, 0);
        due("count in doubt", y.count(0), 1);
    }

    private static void next() {
        promise = 18;
        VolumeCommit x = begun();
        x.put(0, code(1, 0), 5);
        x.put(0, code(1, 7), 0);
        x.put(0, code(1, 31), 9);
        due("next before commit", x.next(1, -1), NONE);
        x.commit(0, 0, 0, 0);
        due("next from least", x.next(1, LEAST), 0);
        due("next after -1", x.next(1, -1), 0);
        due("next after 0", x.next(1, 0), 7);
        due("next after 6", x.next(1, 6), 7);
        due("next after 7", x.next(1, 7), 31);
        due("next after 30", x.next(1, 30), 31);
        due("next after 31", x.next(1, 31), NONE);
        due("next after greatest", x.next(1, GREATEST), NONE);
        due("next in an empty store", x.next(0, LEAST), NONE);
        due("next does not reach the store after", x.next(0, 31), NONE);
        for (int store : WRONG_STORES) {
            due("next in " + store, x.next(store, -1), BAD);
        }
        x.begin();
        x.remove(0, code(1, 7));
        x.put(0, code(1, 9), 1);
        x.commit(0, 1, 1, 0);
        due("next finds a doubtful key with a value", x.next(1, 0), 7);
        due("next passes a doubtful key without", x.next(1, 7), 31);
        x.crash(1);
        due("next in one that is down", x.next(1, -1), DOWN);
        due("DOWN before NONE", x.next(1, 31), DOWN);
    }

    private static void total() {
        promise = 19;
        VolumeCommit x = writing();
        due("total before commit", x.total(0), 10);
        x.commit(0, 0, 0, 0);
        due("total", x.total(0), 16);
        due("total of another", x.total(2), 30);
        for (int store : WRONG_STORES) {
            due("total(" + store + ")", x.total(store), BAD);
        }
        x.crash(0);
        due("total of one that is down", x.total(0), DOWN);
        VolumeCommit y = writing();
        y.commit(0, 2, 0, 0);
        due("total in doubt", y.total(1), 20);
        VolumeCommit z = new VolumeCommit();
        for (int key = 0; key < 32; key++) {
            z.begin();
            z.put(0, code(2, key), 999);
            z.commit(0, 0, 0, 0);
        }
        due("total of a full store", z.total(2), 32 * 999);
        due("count of a full store", z.count(2), 32);
    }

    private static void doubtful() {
        promise = 20;
        VolumeCommit x = writing();
        due("held keys are not doubtful", x.doubtful(0), 0);
        x.remove(0, code(2, 1));
        x.commit(0, 2, 0, 0);
        due("doubtful", x.doubtful(0), 2);
        due("doubtful in another", x.doubtful(1), 2);
        due("doubtful removal", x.doubtful(2), 1);
        for (int store : WRONG_STORES) {
            due("doubtful(" + store + ")", x.doubtful(store), BAD);
        }
        x.crash(0);
        due("doubtful in one that is down", x.doubtful(0), DOWN);
        x.start(0);
        due("doubtful after a crash", x.doubtful(0), 2);
        x.startLeader();
        due("doubtful with both up", x.doubtful(0), 0);
        due("the removal is done", x.look(code(2, 1)), NONE);
    }

    private static void faults() {
        promise = 21;
        VolumeCommit x = new VolumeCommit();
        due("faults of a new object", x.faults(), 0);
        for (int kind = 0; kind < 6; kind++) {
            VolumeCommit y = writing();
            due("faults while writing", y.faults(), 0);
            y.commit(0, kind, 1, 1);
            due("faults after kind " + kind, y.faults(), 0);
            y.start(1);
            due("faults after start", y.faults(), 0);
            y.startLeader();
            due("faults after startLeader", y.faults(), 0);
        }
        due("faults with the doomed", doomed().faults(), 0);
    }

    private static void orderAndLimits() {
        promise = 22;
        VolumeCommit x = writing();
        x.crash(2);
        due("kind 5 with a store that is down", x.commit(0, 5, 2, 0), DOUBT);
        due("it stays down", x.isUp(2), 0);
        due("the leader is down", x.isUp(LEADER), 0);
        expectInDoubt(x, 0);
        due("start of it", x.start(2), 1);
        x.startLeader();
        expectDone(x, 0);
        expectNotDone(x, 2);

        VolumeCommit y = writing();
        y.commit(0, 1, 0, 0);
        y.crash(0);
        y.startLeader();
        y.begin();
        due("kind 5 with a store down and in doubt", y.commit(0, 5, 0, 0), DOUBT);
        due("it stays down too", y.isUp(0), 0);
        y.start(0);
        expectInDoubt(y, 0);
        y.startLeader();
        expectNotDone(y, 0);

        longUse();
    }

    // The object answers as promised up to its 512th call.
    private static void longUse() {
        VolumeCommit x = new VolumeCommit();
        for (int round = 0; round < 128; round++) {
            due("begin in round " + round, x.begin(), 0);
            due("put in round " + round, x.put(0, round % 96, round), 1);
            due("commit in round " + round, x.commit(0, 0, 0, 0), 1);
            due("look in round " + round, x.look(round % 96), round);
        }
    }

    public static void main(String[] args) {
        newObject();
        begin();
        put();
        remove();
        get();
        commit();
        abort();
        status();
        written();
        crash();
        start();
        crashLeader();
        startLeader();
        isUp();
        idle();
        look();
        count();
        next();
        total();
        doubtful();
        faults();
        orderAndLimits();
        if (wrong > 0) {
            System.exit(1);
        }
    }
}
