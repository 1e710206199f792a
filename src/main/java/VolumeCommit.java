public final class VolumeCommit {
    public static final int BAD = -1;
    public static final int NONE = -2;
    public static final int BUSY = -3;
    public static final int DOWN = -4;
    public static final int DOUBT = -5;
    public static final int DOOMED = -6;
    public static final int FULL = -7;

    private static final int STORES = 3;
    private static final int LEADER = 3;
    private static final int PARTIES = 4;
    private static final int KEYS = 32;
    private static final int CODES = 96;
    private static final int TRANSACTIONS = 4;
    private static final int MOST_WRITTEN = 6;
    private static final int GREATEST_VALUE = 999;
    private static final int LAST_KIND = 5;

    private static final int NOT_RUNNING = 0;
    private static final int SOUND = 1;
    private static final int HURT = 2;

    private static final int ALLOWED = 0;

    // Marks in holder beside the transactions' numbers. A store is in doubt about one
    // ended transaction at most, so one mark is enough for all doubtful keys.
    private static final int NOBODY = -1;
    private static final int ENDED_IN_DOUBT = -2;

    // Indexed by code. In fresh, NONE means that the key is to be removed; what it has for
    // a key that nobody holds is never looked at.
    private final int[] contents = new int[CODES];
    private final int[] holder = new int[CODES];
    private final int[] fresh = new int[CODES];

    private final int[] state = new int[TRANSACTIONS];
    private final boolean[] up = new boolean[PARTIES];
    private final boolean[] doubtIsToBeDone = new boolean[STORES];

    public VolumeCommit() {
        for (int code = 0; code < CODES; code++) {
            contents[code] = NONE;
            holder[code] = NOBODY;
        }
        for (int party = 0; party < PARTIES; party++) {
            up[party] = true;
        }
    }

    public int begin() {
        if (!up[LEADER]) {
            return DOWN;
        }
        for (int t = 0; t < TRANSACTIONS; t++) {
            if (state[t] == NOT_RUNNING) {
                state[t] = SOUND;
                return t;
            }
        }
        return FULL;
    }

    public int put(int t, int code, int value) {
        // The tests that the document names before this one answer BAD too.
        if (value < 0 || value > GREATEST_VALUE) {
            return BAD;
        }
        int refusal = refusalToWrite(t, code);
        if (refusal != ALLOWED) {
            return refusal;
        }
        return write(t, code, value);
    }

    public int remove(int t, int code) {
        int refusal = refusalToWrite(t, code);
        if (refusal != ALLOWED) {
            return refusal;
        }
        if (seenBy(t, code) == NONE) {
            return NONE;
        }
        return write(t, code, NONE);
    }

    public int get(int t, int code) {
        int refusal = refusalToRead(t, code);
        if (refusal != ALLOWED) {
            return refusal;
        }
        return seenBy(t, code);
    }

    public int commit(int t, int kind, int store, int steps) {
        if (!isGood(t) || kind < 0 || kind > LAST_KIND || !isStore(store)) {
            return BAD;
        }
        if (state[t] == HURT) {
            end(t);
            return DOOMED;
        }
        boolean takesPart = heldIn(t, store) > 0;
        if (kind == 1) {
            return commitLosingLeader(t, false);
        }
        if (kind == 2) {
            return commitLosingLeader(t, true);
        }
        if (kind == 3 && takesPart) {
            return commitLosingReadyStore(t, store);
        }
        if (kind == 4 && takesPart) {
            return commitLosingUnreadyStore(t, store);
        }
        if (kind == 5) {
            commitLosingLeader(t, true);
            loseStore(store);
            return DOUBT;
        }
        return commitInPeace(t);
    }

    public int abort(int t) {
        if (!isGood(t)) {
            return BAD;
        }
        int held = 0;
        for (int store = 0; store < STORES; store++) {
            held += heldIn(t, store);
        }
        end(t);
        return held;
    }

    public int status(int t) {
        if (t < 0 || t >= TRANSACTIONS) {
            return BAD;
        }
        return state[t];
    }

    public int written(int t, int store) {
        if (!isGood(t) || !isStore(store)) {
            return BAD;
        }
        return heldIn(t, store);
    }

    public int crash(int store) {
        int refusal = refusalOfStore(store);
        if (refusal != ALLOWED) {
            return refusal;
        }
        return loseStore(store);
    }

    public int start(int store) {
        if (!isStore(store)) {
            return BAD;
        }
        if (up[store]) {
            return 0;
        }
        up[store] = true;
        settle(store);
        return 1;
    }

    public int crashLeader() {
        if (!up[LEADER]) {
            return DOWN;
        }
        return loseLeader();
    }

    public int startLeader() {
        if (up[LEADER]) {
            return 0;
        }
        up[LEADER] = true;
        for (int store = 0; store < STORES; store++) {
            settle(store);
        }
        return 1;
    }

    public int isUp(int store) {
        if (store < 0 || store >= PARTIES) {
            return BAD;
        }
        return up[store] ? 1 : 0;
    }

    public void idle(int store, int steps) {
        // Every change is made at once, so no work is ever left over for housekeeping.
    }

    public int look(int code) {
        if (!isCode(code)) {
            return BAD;
        }
        if (!up[code / KEYS]) {
            return DOWN;
        }
        if (holder[code] == ENDED_IN_DOUBT) {
            return DOUBT;
        }
        return contents[code];
    }

    public int count(int store) {
        int refusal = refusalOfStore(store);
        if (refusal != ALLOWED) {
            return refusal;
        }
        int keys = 0;
        for (int key = 0; key < KEYS; key++) {
            if (contents[KEYS * store + key] != NONE) {
                keys++;
            }
        }
        return keys;
    }

    public int next(int store, int after) {
        int refusal = refusalOfStore(store);
        if (refusal != ALLOWED) {
            return refusal;
        }
        for (int key = 0; key < KEYS; key++) {
            if (key > after && contents[KEYS * store + key] != NONE) {
                return key;
            }
        }
        return NONE;
    }

    public int total(int store) {
        int refusal = refusalOfStore(store);
        if (refusal != ALLOWED) {
            return refusal;
        }
        int sum = 0;
        for (int key = 0; key < KEYS; key++) {
            int value = contents[KEYS * store + key];
            if (value != NONE) {
                sum += value;
            }
        }
        return sum;
    }

    public int doubtful(int store) {
        int refusal = refusalOfStore(store);
        if (refusal != ALLOWED) {
            return refusal;
        }
        return heldIn(ENDED_IN_DOUBT, store);
    }

    public int faults() {
        // The document promises this answer in every state.
        return 0;
    }

    private boolean isGood(int t) {
        return t >= 0 && t < TRANSACTIONS && state[t] != NOT_RUNNING;
    }

    private boolean isStore(int store) {
        return store >= 0 && store < STORES;
    }

    private boolean isCode(int code) {
        return code >= 0 && code < CODES;
    }

    private int refusalOfStore(int store) {
        if (!isStore(store)) {
            return BAD;
        }
        return up[store] ? ALLOWED : DOWN;
    }

    private int refusalToRead(int t, int code) {
        if (!isGood(t) || !isCode(code)) {
            return BAD;
        }
        if (state[t] == HURT) {
            return DOOMED;
        }
        if (!up[code / KEYS]) {
            return DOWN;
        }
        return holder[code] == ENDED_IN_DOUBT ? DOUBT : ALLOWED;
    }

    private int refusalToWrite(int t, int code) {
        int refusal = refusalToRead(t, code);
        if (refusal != ALLOWED || holder[code] == t) {
            return refusal;
        }
        if (holder[code] != NOBODY) {
            return BUSY;
        }
        return heldIn(t, code / KEYS) >= MOST_WRITTEN ? FULL : ALLOWED;
    }

    private int write(int t, int code, int value) {
        holder[code] = t;
        fresh[code] = value;
        return heldIn(t, code / KEYS);
    }

    private int seenBy(int t, int code) {
        return holder[code] == t ? fresh[code] : contents[code];
    }

    private int heldIn(int who, int store) {
        int keys = 0;
        for (int key = 0; key < KEYS; key++) {
            if (holder[KEYS * store + key] == who) {
                keys++;
            }
        }
        return keys;
    }

    private int commitInPeace(int t) {
        for (int code = 0; code < CODES; code++) {
            if (holder[code] == t) {
                contents[code] = fresh[code];
            }
        }
        end(t);
        return 1;
    }

    private int commitLosingLeader(int t, boolean toBeDone) {
        for (int store = 0; store < STORES; store++) {
            leaveInDoubt(t, store, toBeDone);
        }
        // This ends t too, which holds nothing any more.
        loseLeader();
        return DOUBT;
    }

    private int commitLosingReadyStore(int t, int store) {
        leaveInDoubt(t, store, true);
        commitInPeace(t);
        loseStore(store);
        return 1;
    }

    private int commitLosingUnreadyStore(int t, int store) {
        end(t);
        loseStore(store);
        return 0;
    }

    private void dropAll(int t) {
        for (int code = 0; code < CODES; code++) {
            if (holder[code] == t) {
                holder[code] = NOBODY;
            }
        }
    }

    private void end(int t) {
        dropAll(t);
        state[t] = NOT_RUNNING;
    }

    private void leaveInDoubt(int t, int store, boolean toBeDone) {
        // A store without a part in t may be down and in doubt about an earlier
        // transaction, whose verdict has to stay.
        if (heldIn(t, store) == 0) {
            return;
        }
        doubtIsToBeDone[store] = toBeDone;
        for (int key = 0; key < KEYS; key++) {
            int code = KEYS * store + key;
            if (holder[code] == t) {
                holder[code] = ENDED_IN_DOUBT;
            }
        }
    }

    private void settle(int store) {
        if (!up[store] || !up[LEADER]) {
            return;
        }
        for (int key = 0; key < KEYS; key++) {
            int code = KEYS * store + key;
            if (holder[code] != ENDED_IN_DOUBT) {
                continue;
            }
            // No one may write a doubtful key, so fresh still has the ended one's value.
            if (doubtIsToBeDone[store]) {
                contents[code] = fresh[code];
            }
            holder[code] = NOBODY;
        }
    }

    private int loseStore(int store) {
        up[store] = false;
        int doomed = 0;
        for (int t = 0; t < TRANSACTIONS; t++) {
            if (heldIn(t, store) > 0) {
                dropAll(t);
                state[t] = HURT;
                doomed++;
            }
        }
        return doomed;
    }

    private int loseLeader() {
        up[LEADER] = false;
        int ended = 0;
        for (int t = 0; t < TRANSACTIONS; t++) {
            if (state[t] != NOT_RUNNING) {
                end(t);
                ended++;
            }
        }
        return ended;
    }
}
