// "In every method the tests are made in the order named": wherever two of a method's tests could
// both refuse one call, which of them answers.
//
// Some pairs can't meet in one call, so no run is here for them: begin's DOWN and FULL (without the
// leader none runs); DOWN with BUSY or FULL (who wrote in a store that is down is doomed); DOOMED
// with FULL (a doomed one has written nothing); DOUBT with BUSY, FULL or NONE in put, remove and
// get (a key is doubtful only while the leader is down, so that t is not good, or its store is).
public final class OrderTests {
    private static final Sentences SENTENCES = new Sentences();

    // Key 1 has 10, 20 and 30 in stores 0, 1 and 2; nothing runs.
    private static final String FILLED =
        "begin(); put(0, 0:1, 10); put(0, 1:1, 20); put(0, 2:1, 30); commit(0, 0, 0, 0) 1;";
    // Transaction 0 is doomed and store 2 down; 1 holds keys 1 and 5 of store 1, 5 having no value.
    private static final String DOOMED_ONE = FILLED
        + "begin() 0; begin() 1; put(0, 0:1, 7); put(0, 2:1, 8); put(1, 1:1, 9); put(1, 1:5, 9) 2; crash(2) 1; status(0) 2;";
    // Transaction 1 holds keys 1 and 5 of store 0, and 0 has written six others there; store 2 is down.
    private static final String SIX = FILLED + "begin() 0; begin() 1; put(1, 0:1, 7); put(1, 0:5, 7) 2; crash(2) 0;"
        + "put(0, 0:10, 1); put(0, 0:11, 1); put(0, 0:12, 1); put(0, 0:13, 1); put(0, 0:14, 1); put(0, 0:15, 1) 6;";
    // Key 1 of store 0 is doubtful, and key 2 too, which has no value; store 0 is down and the leader up.
    private static final String DOWN_IN_DOUBT = FILLED
        + "begin(); put(0, 0:1, 11); put(0, 0:2, 5); commit(0, 3, 0, 0) 1; begin() 0;";
    // The same keys are doubtful, and the leader is down; all stores are up.
    private static final String LEADERLESS = FILLED
        + "begin(); put(0, 0:1, 11); put(0, 0:2, 5); commit(0, 2, 0, 0) DOUBT; look(0:1) DOUBT;";

    private static void holds(String order, String... runs) {
        SENTENCES.holds(order, runs);
    }

    private static void begin() {
        holds("begin: the leader is down after four ran", "begin() 0; begin() 1; begin() 2; begin() 3; crashLeader() 4; begin() DOWN;");
    }

    private static void putBadFirst() {
        holds("put: t not good before the store is down", SIX + "put(2, 2:1, 1) BAD; put(-1, 2:1, 1) BAD; put(4, 2:1, 1) BAD;");
        holds("put: t not good before the key is doubtful", LEADERLESS + "put(0, 0:1, 1) BAD; put(0, 0:2, 1) BAD;", DOWN_IN_DOUBT + "put(1, 0:1, 1) BAD;");
        holds("put: t not good before another holds it", SIX + "put(2, 0:1, 1) BAD; put(-1, 0:1, 1) BAD; put(4, 0:10, 1) BAD;");
        holds("put: code not good before DOOMED", DOOMED_ONE + "put(0, -1, 1) BAD; put(0, 96, 1) BAD; put(0, 128, 1) BAD;");
        holds("put: code not good before DOWN: no code reaches beyond the last store", SIX + "put(0, 96, 1) BAD; put(0, 97, 1) BAD; put(0, -31, 1) BAD;");
        holds("put: code not good before FULL: no code reaches before the first store", SIX + "put(0, -1, 1) BAD; put(0, -16, 1) BAD; put(0, -22, 1) BAD;");
        holds("put: value before DOOMED", DOOMED_ONE + "put(0, 0:1, -1) BAD; put(0, 0:1, 1000) BAD; put(0, 2:1, 1000) BAD;");
        holds("put: value before DOWN", SIX + "put(0, 2:1, -1) BAD; put(0, 2:1, 1000) BAD;");
        holds("put: value before DOUBT", DOWN_IN_DOUBT + "put(0, 0:1, -1) BAD; put(0, 0:1, 1000) BAD;");
        holds("put: value before BUSY", SIX + "put(0, 0:1, -1) BAD; put(0, 0:1, 1000) BAD;");
        holds("put: value before FULL", SIX + "put(0, 0:20, -1) BAD; put(0, 0:20, 1000) BAD; put(0, 0:20, 999) FULL;");
    }

    private static void put() {
        putBadFirst();
        holds("put: DOOMED before DOWN", DOOMED_ONE + "put(0, 2:1, 1) DOOMED; put(1, 2:1, 1) DOWN;");
        holds("put: DOOMED before DOUBT", DOWN_IN_DOUBT + "put(0, 1:3, 1) 1; crash(1) 1; put(0, 0:1, 1) DOOMED; put(0, 0:2, 1) DOOMED;");
        holds("put: DOOMED before BUSY", DOOMED_ONE + "put(0, 1:1, 1) DOOMED; put(0, 1:5, 1) DOOMED;");
        holds("put: DOWN before DOUBT", DOWN_IN_DOUBT + "put(0, 0:1, 1) DOWN; put(0, 0:2, 1) DOWN; put(0, 0:3, 1) DOWN;");
        holds("put: BUSY before FULL", SIX + "put(0, 0:1, 1) BUSY; put(0, 0:5, 1) BUSY; put(0, 0:6, 1) FULL;");
    }

    private static void remove() {
        holds("remove: t not good before DOWN, BUSY and NONE", SIX + "remove(2, 2:1) BAD; remove(2, 0:1) BAD; remove(2, 0:7) BAD; remove(-1, 1:7) BAD; remove(4, 1:7) BAD;");
        holds("remove: t not good before DOUBT", LEADERLESS + "remove(0, 0:1) BAD; remove(0, 0:2) BAD;", DOWN_IN_DOUBT + "remove(1, 0:1) BAD;");
        holds("remove: code not good before DOOMED and FULL", DOOMED_ONE + "remove(0, -1) BAD; remove(0, 96) BAD;", SIX + "remove(0, -1) BAD; remove(0, 96) BAD; remove(0, -22) BAD;");
        holds("remove: DOOMED before DOWN", DOOMED_ONE + "remove(0, 2:1) DOOMED; remove(1, 2:1) DOWN;");
        holds("remove: DOOMED before DOUBT", DOWN_IN_DOUBT + "put(0, 1:3, 1) 1; crash(1) 1; remove(0, 0:1) DOOMED; remove(0, 0:2) DOOMED;");
        holds("remove: DOOMED before BUSY", DOOMED_ONE + "remove(0, 1:1) DOOMED; remove(0, 1:5) DOOMED;");
        holds("remove: DOOMED before NONE", DOOMED_ONE + "remove(0, 0:9) DOOMED; remove(0, 1:9) DOOMED; remove(1, 0:9) NONE;");
        holds("remove: DOWN before DOUBT", DOWN_IN_DOUBT + "remove(0, 0:1) DOWN; remove(0, 0:2) DOWN;");
        holds("remove: DOWN before NONE", SIX + "remove(0, 2:9) DOWN; remove(0, 2:1) DOWN; remove(0, 1:9) NONE;");
        holds("remove: BUSY before FULL", SIX + "remove(0, 0:1) BUSY;");
        holds("remove: BUSY before NONE", SIX + "remove(0, 0:5) BUSY;",
            FILLED + "begin() 0; begin() 1; put(1, 0:5, 7) 1; remove(0, 0:5) BUSY; remove(1, 0:5) 1; remove(0, 0:5) BUSY; remove(1, 0:5) NONE;");
        holds("remove: FULL before NONE", SIX + "remove(0, 0:20) FULL; remove(0, 0:10) 6; remove(0, 0:10) NONE; remove(0, 1:20) NONE;");
    }

    private static void get() {
        holds("get: t not good before DOWN and NONE", SIX + "get(2, 2:1) BAD; get(2, 0:20) BAD; get(-1, 0:20) BAD; get(4, 2:1) BAD;");
        holds("get: t not good before DOUBT", LEADERLESS + "get(0, 0:1) BAD; get(0, 0:2) BAD;", DOWN_IN_DOUBT + "get(1, 0:1) BAD;");
        holds("get: code not good before DOOMED", DOOMED_ONE + "get(0, -1) BAD; get(0, 96) BAD;");
        holds("get: DOOMED before DOWN", DOOMED_ONE + "get(0, 2:1) DOOMED; get(0, 2:9) DOOMED; get(1, 2:1) DOWN;");
        holds("get: DOOMED before DOUBT", DOWN_IN_DOUBT + "put(0, 1:3, 1) 1; crash(1) 1; get(0, 0:1) DOOMED;");
        holds("get: DOOMED before NONE", DOOMED_ONE + "get(0, 0:9) DOOMED; get(0, 1:9) DOOMED; get(1, 0:9) NONE;");
        holds("get: DOWN before DOUBT", DOWN_IN_DOUBT + "get(0, 0:1) DOWN; get(0, 0:2) DOWN;");
        holds("get: DOWN before NONE", SIX + "get(0, 2:9) DOWN; get(0, 1:9) NONE;");
    }

    private static void commit() {
        for (int kind = -1; kind <= 6; kind++) {
            String wrongStore = "commit(0, " + kind + ", -1, 0) BAD; commit(0, " + kind + ", 3, 0) BAD;";
            holds("commit: store not good before DOOMED", DOOMED_ONE + wrongStore + "status(0) 2; isUp(3) 1;");
            holds("commit: store not good before any kind", SIX + wrongStore + "status(0) 1; written(0, 0) 6; isUp(3) 1;");
        }
        holds("commit: kind not good before DOOMED", DOOMED_ONE + "commit(0, -1, 0, 0) BAD; commit(0, 6, 0, 0) BAD; status(0) 2; commit(0, 5, 0, 0) DOOMED;");
        holds("commit: DOOMED before any kind", DOOMED_ONE + "commit(0, 1, 0, 0) DOOMED; isUp(3) 1; status(1) 1;",
            DOOMED_ONE + "commit(0, 2, 0, 0) DOOMED; isUp(3) 1;", DOOMED_ONE + "commit(0, 5, 0, 0) DOOMED; isUp(3) 1; isUp(0) 1;",
            DOOMED_ONE + "commit(0, 4, 0, 0) DOOMED; isUp(0) 1;", DOOMED_ONE + "commit(0, 3, 0, 0) DOOMED; isUp(0) 1;");
    }

    private static void stores() {
        holds("written: t not good and store not good", SIX + "written(2, 3) BAD; written(2, 2) BAD; written(0, 3) BAD; written(0, 2) 0;");
        // The leader is isUp's number 3 alone: no other method takes it for a store that is down.
        holds("crash, start and the questions: store not good before DOWN",
            "crashLeader() 0; crash(2) 0; crash(3) BAD; start(3) BAD; count(3) BAD; next(3, -1) BAD; total(3) BAD; doubtful(3) BAD; isUp(3) 0; isUp(4) BAD;"
                + "crash(-1) BAD; start(-1) BAD; count(-1) BAD; next(-1, -1) BAD; total(-1) BAD; doubtful(-1) BAD;",
            "crash(0) 0; crash(1) 0; crash(2) 0; crash(3) BAD; count(3) BAD; next(3, -1) BAD; total(3) BAD; doubtful(3) BAD; look(96) BAD; look(-1) BAD;");
        holds("next: store not good before NONE", "next(3, 31) BAD; next(-1, 31) BAD; next(2, 31) NONE;");
        holds("next: DOWN before NONE", "crash(0) 0; next(0, 31) DOWN; next(0, -1) DOWN; next(1, -1) NONE;");
        holds("look: code not good before DOWN", "crash(0); crash(2); look(-1) BAD; look(96) BAD; look(0) DOWN; look(95) DOWN;");
        holds("look: DOWN before DOUBT", LEADERLESS + "crash(0) 0; look(0:1) DOWN; look(0:2) DOWN;", DOWN_IN_DOUBT + "look(0:1) DOWN;");
        holds("look: DOWN before NONE", "crash(1) 0; look(1:5) DOWN; look(0:5) NONE;");
        holds("look: DOUBT before NONE", LEADERLESS + "look(0:2) DOUBT; look(0:3) NONE;");
    }

    public static void main(String[] args) {
        begin();
        put();
        remove();
        get();
        commit();
        stores();
        SENTENCES.exitIfWrong();
    }
}
