// Each sentence of the document that names a boundary case, with runs that fail if it is broken.
// Which of two refusals answers is shown by OrderTests, that refused calls and questions change
// nothing by RefusalTests.
public final class BoundaryTests {
    private static final Sentences SENTENCES = new Sentences();

    // Key 1 has 10, 20 and 30 in stores 0, 1 and 2; nothing runs.
    private static final String FILLED =
        "begin(); put(0, 0:1, 10); put(0, 1:1, 20); put(0, 2:1, 30); commit(0, 0, 0, 0) 1;";
    // Transaction 0 has then written keys 1 and 2 in stores 0 and 1.
    private static final String WRITING = FILLED
        + "begin(); put(0, 0:1, 11); put(0, 0:2, 5); put(0, 1:1, 12); put(0, 1:2, 6) 2;";
    // Transaction 0 is doomed by a crash of store 2, which is up again.
    private static final String DOOMED_ONE = FILLED
        + "begin(); put(0, 0:1, 77); put(0, 2:1, 78); crash(2) 1; start(2) 1;";
    // Transaction 0 has written six keys in store 0, and key 1 has the value 10 there.
    private static final String SIX = FILLED + "begin(); put(0, 0:10, 1) 1; put(0, 0:11, 1) 2;"
        + "put(0, 0:12, 1) 3; put(0, 0:13, 1) 4; put(0, 0:14, 1) 5; put(0, 0:15, 1) 6;";
    private static final String FOUR = "begin() 0; begin() 1; begin() 2; begin() 3;";

    private static final String IN_DOUBT_0 =
        "look(0:1) DOUBT; look(0:2) DOUBT; doubtful(0) 2; count(0) 1; total(0) 10; next(0, 1) NONE;";
    private static final String IN_DOUBT_1 =
        "look(1:1) DOUBT; look(1:2) DOUBT; doubtful(1) 2; count(1) 1; total(1) 20; next(1, 1) NONE;";
    private static final String DONE_0 = "look(0:1) 11; look(0:2) 5; doubtful(0) 0; count(0) 2; total(0) 16;";
    private static final String DONE_1 = "look(1:1) 12; look(1:2) 6; doubtful(1) 0; count(1) 2; total(1) 18;";
    private static final String NOT_DONE_0 = "look(0:1) 10; look(0:2) NONE; doubtful(0) 0; count(0) 1; total(0) 10;";
    private static final String NOT_DONE_1 = "look(1:1) 20; look(1:2) NONE; doubtful(1) 0; count(1) 1; total(1) 20;";
    private static final String SAME_2 = "look(2:1) 30; look(2:2) NONE; doubtful(2) 0; count(2) 1; total(2) 30;";

    private static void holds(String sentence, String... runs) {
        SENTENCES.holds(sentence, runs);
    }

    // The run once for each word, put in the place of #.
    private static String[] forEach(String run, String... words) {
        String[] runs = new String[words.length];
        for (int i = 0; i < words.length; i++) {
            runs[i] = run.replace("#", words[i]);
        }
        return runs;
    }

    private static String[] forWrongTransactions(String run) {
        return forEach(run, "-1", "-2", "4", "5", "100", "LEAST", "GREATEST");
    }

    private static String[] forWrongStores(String run) {
        return forEach(run, "-1", "-2", "3", "4", "32", "96", "LEAST", "GREATEST");
    }

    private static String[] forWrongCodes(String run) {
        return forEach(run, "-1", "-2", "-31", "-32", "-96", "96", "97", "127", "128", "LEAST", "GREATEST");
    }

    private static void use() {
        StringBuilder rounds = new StringBuilder();
        for (int round = 0; round < 127; round++) {
            rounds.append("begin() 0; put(0, " + round % 96 + ", " + round + ") 1; commit(0, 0, 2, 0) 1;");
            rounds.append("look(" + round % 96 + ") " + round + ";");
        }
        holds("An object is used for at most 512 calls: the 512th is answered as the first",
            rounds + "begin() 0; put(0, 2:31, 999) 1; commit(0, 3, 2, 0) 1; look(2:31) DOWN;",
            rounds + "begin() 0; put(0, 2:31, 999) 1; commit(0, 0, 2, 0) 1; look(2:31) 999;",
            rounds + "crash(0) 0; crash(1) 0; crash(2) 0; crashLeader() 0;");
    }

    private static void parties() {
        holds("There are three STORES 0 .. 2 and a LEADER; each of these four is UP or DOWN",
            "crash(0) 0; isUp(0) 0; isUp(1) 1; isUp(2) 1; isUp(3) 1;",
            "crash(1) 0; isUp(0) 1; isUp(1) 0; isUp(2) 1; isUp(3) 1;",
            "crash(2) 0; isUp(0) 1; isUp(1) 1; isUp(2) 0; isUp(3) 1;",
            "crashLeader() 0; isUp(0) 1; isUp(1) 1; isUp(2) 1; isUp(3) 0;",
            "crash(0) 0; crash(1) 0; crash(2) 0; crashLeader() 0; isUp(0) 0; isUp(1) 0; isUp(2) 0; isUp(3) 0;"
                + "start(0) 1; start(1) 1; start(2) 1; startLeader() 1; isUp(0) 1; isUp(1) 1; isUp(2) 1; isUp(3) 1;");
        holds("all are up at first", "isUp(0) 1; isUp(1) 1; isUp(2) 1; isUp(3) 1;");
    }

    private static void contents() {
        holds("A store gives VALUES (0 .. 999): 0 is a value as others are",
            "begin(); put(0, 1:7, 0) 1; get(0, 1:7) 0; commit(0, 0, 0, 0) 1; look(1:7) 0; count(1) 1;"
                + "next(1, -1) 7; total(1) 0; begin() 0; get(0, 1:7) 0; remove(0, 1:7) 1; get(0, 1:7) NONE;"
                + "commit(0, 0, 0, 0) 1; look(1:7) NONE; count(1) 0; next(1, -1) NONE;",
            "begin(); put(0, 1:7, 999) 1; get(0, 1:7) 999; commit(0, 0, 0, 0) 1; look(1:7) 999; total(1) 999;");
        holds("to some of the KEYS 0 .. 31: the least and greatest of each store are keys of their own",
            "begin(); put(0, 0:0, 1) 1; put(0, 0:31, 2) 2; put(0, 1:0, 3) 1; put(0, 1:31, 4) 2; put(0, 2:0, 5) 1;"
                + "put(0, 2:31, 6) 2; commit(0, 0, 0, 0) 1; look(0) 1; look(31) 2; look(32) 3; look(63) 4;"
                + "look(64) 5; look(95) 6; total(0) 3; total(1) 7; total(2) 11; count(0) 2; count(1) 2; count(2) 2;");
        holds("none at first",
            "count(0) 0; count(1) 0; count(2) 0; next(0, -1) NONE; next(1, -1) NONE; next(2, -1) NONE;"
                + "look(0:0) NONE; look(1:15) NONE; look(2:31) NONE; total(0) 0; total(1) 0; total(2) 0;");
        holds("it comes through all crashes of the store",
            FILLED + "crash(0) 0; start(0) 1; look(0:1) 10; crash(0) 0; start(0) 1; look(0:1) 10; count(0) 1; total(0) 10;",
            FILLED + "crash(1) 0; crashLeader() 0; start(1) 1; look(1:1) 20; crash(1) 0; startLeader() 1; start(1) 1;"
                + "look(1:1) 20; count(1) 1; next(1, -1) 1;",
            FILLED + "crash(0); crash(1); crash(2); start(2) 1; start(1) 1; start(0) 1; look(0:1) 10; look(1:1) 20; look(2:1) 30;");
    }

    private static void transactions() {
        holds("At most four TRANSACTIONS 0 .. 3 are RUNNING; of these some are DOOMED",
            FOUR + "begin() FULL; put(0, 0:0, 1); put(1, 0:1, 1); put(2, 0:2, 1); put(3, 0:3, 1); crash(0) 4;"
                + "status(0) 2; status(1) 2; status(2) 2; status(3) 2; begin() FULL; abort(3) 0; begin() 3; status(3) 1;");
        holds("which only it sees until it is DONE",
            WRITING + "begin() 1; get(0, 0:1) 11; get(1, 0:1) 10; look(0:1) 10; get(0, 0:2) 5; get(1, 0:2) NONE;"
                + "look(0:2) NONE; remove(0, 2:1) 1; get(0, 2:1) NONE; get(1, 2:1) 30; look(2:1) 30;"
                + "commit(0, 0, 0, 0) 1; get(1, 0:1) 11; get(1, 0:2) 5; get(1, 2:1) NONE; look(0:1) 11; look(2:1) NONE;");
        holds("A key of a store is held by one transaction at most",
            FOUR + "put(3, 1:4, 1) 1; put(0, 1:4, 2) BUSY; put(1, 1:4, 2) BUSY; put(2, 1:4, 2) BUSY; put(3, 1:4, 2) 1;"
                + "put(0, 0:4, 2) 1; put(1, 2:4, 2) 1; put(2, 1:5, 2) 1; put(0, 1:3, 2) 1;",
            FILLED + "begin(); begin(); remove(1, 0:1) 1; put(0, 0:1, 5) BUSY; remove(0, 0:1) BUSY; abort(1) 1; put(0, 0:1, 5) 1;");
        holds("A transaction SEES the store's contents with what it has itself written put in their place",
            FILLED + "begin(); begin(); get(1, 0:1) 10; put(0, 0:1, 11) 1; commit(0, 0, 0, 0) 1; get(1, 0:1) 11;"
                + "begin() 0; remove(0, 0:1) 1; commit(0, 0, 0, 0) 1; get(1, 0:1) NONE; put(1, 0:1, 3) 1; get(1, 0:1) 3;");
        holds("When a transaction ENDS, it is no longer running, and holds nothing",
            WRITING + "begin() 1; commit(0, 0, 0, 0) 1; status(0) 0; put(1, 0:1, 1) 1; put(1, 1:2, 1) 1; begin() 0; written(0, 0) 0;",
            WRITING + "begin() 1; abort(0) 4; status(0) 0; put(1, 0:1, 1) 1; put(1, 1:2, 1) 1; begin() 0; get(0, 0:1) 10;",
            WRITING + "begin() 1; commit(0, 4, 0, 0) 0; status(0) 0; put(1, 1:1, 1) 1; start(0) 1; put(1, 0:1, 1) 1; begin() 0; get(0, 1:2) NONE;",
            WRITING + "begin() 1; commit(0, 3, 0, 0) 1; status(0) 0; put(1, 1:1, 1) 1; start(0) 1; put(1, 0:1, 1) 1; begin() 0; written(0, 1) 0;",
            WRITING + "crashLeader() 1; status(0) 0; startLeader() 1; begin() 0; written(0, 0) 0; get(0, 0:1) 10; put(0, 0:1, 1) 1;",
            WRITING + "commit(0, 1, 0, 0) DOUBT; status(0) 0; startLeader() 1; begin() 0; written(0, 0) 0; put(0, 0:1, 1) 1;",
            DOOMED_ONE + "commit(0, 0, 0, 0) DOOMED; status(0) 0; begin() 0; status(0) 1; written(0, 0) 0; put(0, 0:1, 1) 1;");
    }

    private static void doubt() {
        String three = WRITING + "put(0, 2:1, 13); put(0, 2:2, 7) 2;";
        String allUp = "startLeader(); start(0); start(1); start(2);";
        String done = "total(0) 16; total(1) 18; total(2) 20;";
        String notDone = "total(0) 10; total(1) 20; total(2) 30;";
        holds("It is done in all of them or in none, sooner or later",
            three + "commit(0, 0, 1, 0) 1;" + allUp + done, three + "commit(0, 1, 1, 0) DOUBT;" + allUp + notDone,
            three + "commit(0, 2, 1, 0) DOUBT;" + allUp + done, three + "commit(0, 3, 1, 0) 1;" + allUp + done,
            three + "commit(0, 4, 1, 0) 0;" + allUp + notDone, three + "commit(0, 5, 1, 0) DOUBT;" + allUp + done,
            three + "crash(1) 1; commit(0, 2, 0, 0) DOOMED;" + allUp + notDone,
            three + "commit(0, 2, 1, 0) DOUBT; crash(0) 0; crash(1) 0; crash(2) 0; startLeader() 1; start(0) 1; crashLeader() 0;"
                + "start(1) 1; startLeader() 1; crashLeader() 0; start(2) 1; doubtful(0) 0; doubtful(1) 0; doubtful(2) 2; total(2) 30;"
                + "startLeader() 1;" + done);
        holds("The keys that the transaction has written there are DOUBTFUL then, and the contents are still those without it",
            WRITING + "commit(0, 1, 0, 0) DOUBT;" + IN_DOUBT_0 + IN_DOUBT_1 + SAME_2,
            WRITING + "commit(0, 2, 0, 0) DOUBT;" + IN_DOUBT_0 + IN_DOUBT_1 + SAME_2,
            FILLED + "begin(); remove(0, 0:1) 1; commit(0, 2, 0, 0) DOUBT; look(0:1) DOUBT; count(0) 1; total(0) 10; next(0, -1) 1; doubtful(0) 1;",
            "begin(); put(0, 0:4, 1) 1; remove(0, 0:4) 1; commit(0, 2, 0, 0) DOUBT; look(0:4) DOUBT; doubtful(0) 1; count(0) 0;");
        doubtIsAboutOne();
        doubtEnds();
    }

    private static void doubtIsAboutOne() {
        String later = "crash(0) 0; startLeader() 1; begin() 0; put(0, 2:2, 8) 1; commit(0, #, 2, 0);"
            + "start(2); startLeader(); start(0) 1;";
        holds("A store is in doubt about one transaction at most: a later one leaves it as it is",
            WRITING + "commit(0, 1, 0, 0) DOUBT;" + later.replace("#", "2") + NOT_DONE_0 + NOT_DONE_1 + "total(2) 38;",
            WRITING + "commit(0, 1, 0, 0) DOUBT;" + later.replace("#", "5") + NOT_DONE_0 + NOT_DONE_1 + "total(2) 38;",
            WRITING + "commit(0, 1, 0, 0) DOUBT;" + later.replace("#", "3") + NOT_DONE_0 + NOT_DONE_1 + "total(2) 38;",
            WRITING + "commit(0, 1, 0, 0) DOUBT;" + later.replace("#", "0") + NOT_DONE_0 + NOT_DONE_1 + "total(2) 38;",
            WRITING + "commit(0, 2, 0, 0) DOUBT;" + later.replace("#", "1") + DONE_0 + DONE_1 + SAME_2,
            WRITING + "commit(0, 2, 0, 0) DOUBT;" + later.replace("#", "4") + DONE_0 + DONE_1 + SAME_2,
            WRITING + "commit(0, 3, 0, 0) 1; begin() 0; put(0, 2:2, 8) 1; commit(0, 1, 2, 0) DOUBT; start(0) 1;" + IN_DOUBT_0
                + DONE_1 + "doubtful(2) 1; startLeader() 1;" + DONE_0 + SAME_2,
            WRITING + "commit(0, 3, 0, 0) 1; begin() 0; put(0, 1:2, 8) 1; commit(0, 3, 1, 0) 1; start(1) 1; look(1:2) 8; start(0) 1;" + DONE_0);
        holds("no longer in doubt: what was doubtful may be written and be in doubt again",
            WRITING + "commit(0, 2, 0, 0) DOUBT; startLeader() 1; begin() 0; put(0, 0:2, 9) 1; commit(0, 1, 0, 0) DOUBT;"
                + "look(0:1) 11; look(0:2) DOUBT; doubtful(0) 1; doubtful(1) 0; startLeader() 1;" + DONE_0 + DONE_1,
            WRITING + "commit(0, 1, 0, 0) DOUBT; startLeader() 1; begin() 0; put(0, 0:2, 9) 1; commit(0, 2, 0, 0) DOUBT;"
                + "look(0:1) 10; look(0:2) DOUBT; startLeader() 1; look(0:1) 10; look(0:2) 9; total(1) 20;");
    }

    private static void doubtEnds() {
        holds("As soon as the store and the leader are both up, it is no longer in doubt",
            WRITING + "commit(0, 2, 0, 0) DOUBT; startLeader() 1;" + DONE_0 + DONE_1 + SAME_2,
            WRITING + "commit(0, 1, 0, 0) DOUBT; startLeader() 1;" + NOT_DONE_0 + NOT_DONE_1 + SAME_2,
            WRITING + "commit(0, 5, 0, 0) DOUBT; startLeader() 1; look(0:1) DOWN;" + DONE_1 + "start(0) 1;" + DONE_0,
            WRITING + "commit(0, 5, 0, 0) DOUBT; start(0) 1;" + IN_DOUBT_0 + IN_DOUBT_1 + "startLeader() 1;" + DONE_0 + DONE_1,
            WRITING + "commit(0, 3, 1, 0) 1;" + DONE_0 + "start(1) 1;" + DONE_1);
        holds("What it is in doubt about it still is when it comes up",
            WRITING + "commit(0, 2, 0, 0) DOUBT; crash(0) 0; start(0) 1;" + IN_DOUBT_0 + "crash(0) 0; start(0) 1;" + IN_DOUBT_0
                + "crash(0) 0; startLeader() 1; crashLeader() 0; start(0) 1;" + IN_DOUBT_0 + DONE_1 + "startLeader() 1;" + DONE_0,
            WRITING + "commit(0, 1, 0, 0) DOUBT; crash(0) 0; start(0) 1;" + IN_DOUBT_0 + "crash(0) 0; startLeader() 1;"
                + NOT_DONE_1 + "crashLeader() 0; start(0) 1;" + IN_DOUBT_0 + "startLeader() 1;" + NOT_DONE_0);
    }

    private static void crashes() {
        holds("If a STORE CRASHES, all running transactions that have written in it are doomed",
            FILLED + FOUR + "put(0, 1:1, 1); put(1, 1:2, 1); put(2, 0:1, 1); get(3, 1:1) 20; crash(1) 2;"
                + "status(0) 2; status(1) 2; status(2) 1; status(3) 1; written(2, 0) 1; get(2, 0:1) 1;",
            FILLED + "begin(); remove(0, 1:1) 1; crash(1) 1; status(0) 2;",
            "begin(); put(0, 1:3, 1) 1; remove(0, 1:3) 1; crash(1) 1; status(0) 2;",
            WRITING + "begin() 1; put(1, 0:1, 3) BUSY; remove(1, 0:1) BUSY; remove(1, 0:9) NONE; put(1, 0:9, 1000) BAD;"
                + "crash(0) 1; status(0) 2; status(1) 1; put(1, 1:1, 3) 1;");
        holds("A DOOMED transaction holds nothing in any store and has written nothing",
            WRITING + "begin() 1; crash(0) 1; written(0, 0) 0; written(0, 1) 0; written(0, 2) 0; put(1, 1:1, 3) 1; put(1, 1:2, 3) 2;"
                + "crash(1) 1; start(0) 1; status(0) 2; look(0:1) 10; look(0:2) NONE; abort(0) 0;",
            DOOMED_ONE + "written(0, 0) 0; written(0, 2) 0; crash(0) 0; crash(2) 0; status(0) 2; abort(0) 0;");
        holds("If the LEADER CRASHES, it goes down, and all running transactions end without being done",
            WRITING + "begin() 1; put(1, 2:2, 8) 1; crashLeader() 2; status(0) 0; status(1) 0;" + NOT_DONE_0 + NOT_DONE_1 + SAME_2
                + "startLeader() 1; status(0) 0; status(1) 0;" + NOT_DONE_0 + NOT_DONE_1 + SAME_2,
            DOOMED_ONE + "crashLeader() 1; status(0) 0; startLeader() 1; begin() 0; status(0) 1;");
    }

    private static void begin() {
        holds("begin: A transaction runs that has written nothing",
            WRITING + "abort(0) 4; begin() 0; status(0) 1; written(0, 0) 0; written(0, 1) 0; get(0, 0:1) 10; get(0, 0:2) NONE; abort(0) 0;",
            DOOMED_ONE + "abort(0) 0; begin() 0; status(0) 1; get(0, 0:1) 10; put(0, 0:1, 1) 1;");
        holds("begin: The leader is down: DOWN",
            "crashLeader() 0; begin() DOWN; status(0) 0; startLeader() 1; begin() 0;",
            FOUR + "crashLeader() 4; begin() DOWN; begin() DOWN; startLeader() 1; begin() 0;",
            "begin(); commit(0, 1, 0, 0) DOUBT; begin() DOWN; start(0) 0; begin() DOWN;",
            "crash(0); crash(1); crash(2); begin() 0; begin() 1;");
        holds("begin: four are running: FULL",
            FOUR + "begin() FULL; begin() FULL; status(0) 1; status(3) 1; abort(1) 0; begin() 1; begin() FULL;",
            FOUR + "put(2, 1:1, 1); crash(1) 1; begin() FULL; commit(2, 0, 0, 0) DOOMED; begin() 2; begin() FULL;");
        holds("begin: Else answers its number, the least that is not running",
            FOUR + "abort(3) 0; abort(0) 0; abort(2) 0; begin() 0; begin() 2; begin() 3; begin() FULL;",
            FOUR + "commit(1, 0, 0, 0) 1; commit(2, 0, 0, 0) 1; begin() 1; commit(0, 0, 0, 0) 1; begin() 0; begin() 2;");
    }

    private static void putAndRemoveBad() {
        holds("put: t is not good: BAD", forWrongTransactions("begin(); put(#, 0:1, 5) BAD; written(0, 0) 0;"));
        holds("put: t is not good: BAD", "put(0, 0:1, 5) BAD;",
            "begin(); put(1, 0:1, 5) BAD; put(2, 0:1, 5) BAD; put(3, 0:1, 5) BAD; put(0, 0:1, 5) 1;",
            "begin(); abort(0); put(0, 0:1, 5) BAD;", "begin(); commit(0, 0, 0, 0); put(0, 0:1, 5) BAD; look(0:1) NONE;",
            FOUR + "put(3, 0:1, 5) 1; crashLeader() 4; put(3, 0:1, 5) BAD;");
        holds("put: any other code is the case of BAD", forWrongCodes("begin(); put(0, #, 5) BAD; abort(0) 0;"));
        holds("put: value is not 0 .. 999: BAD",
            forEach("begin(); put(0, 1:3, #) BAD; written(0, 1) 0; get(0, 1:3) NONE;", "-1", "-2", "-7", "1000", "1001", "1024", "LEAST", "GREATEST"));
        holds("put: value is not 0 .. 999: BAD", "begin(); put(0, 1:3, 0) 1; put(0, 1:4, 999) 2; put(0, 1:5, 1) 3; put(0, 1:6, 998) 4;",
            "begin(); put(0, 1:3, 7) 1; put(0, 1:3, 1000) BAD; put(0, 1:3, -1) BAD; get(0, 1:3) 7;");
        holds("remove: the tests are those of put, t", forWrongTransactions(FILLED + "begin(); remove(#, 0:1) BAD; abort(0) 0;"));
        holds("remove: the tests are those of put, t", FILLED + "remove(0, 0:1) BAD; begin(); remove(1, 0:1) BAD; remove(0, 0:1) 1;",
            FILLED + "begin(); abort(0); remove(0, 0:1) BAD; look(0:1) 10;");
        holds("remove: code is that of put", forWrongCodes(FILLED + "begin(); remove(0, #) BAD; abort(0) 0;"));
        holds("get: t is not good: BAD", forWrongTransactions(FILLED + "begin(); get(#, 0:1) BAD;"));
        holds("get: t is not good: BAD", FILLED + "get(0, 0:1) BAD; begin(); get(1, 0:1) BAD; get(0, 0:1) 10;",
            FILLED + "begin(); crashLeader(); get(0, 0:1) BAD;");
        holds("get: code not as in put: BAD", forWrongCodes(FILLED + "begin(); get(0, #) BAD;"));
    }

    private static void put() {
        holds("put: t is doomed: DOOMED", DOOMED_ONE + "put(0, 0:1, 5) DOOMED; put(0, 2:1, 5) DOOMED; put(0, 1:5, 5) DOOMED; status(0) 2; abort(0) 0;");
        holds("put: the store is down: DOWN", "begin(); crash(2) 0; put(0, 2:0, 5) DOWN; put(0, 2:31, 5) DOWN; put(0, 1:31, 5) 1; start(2) 1; put(0, 2:0, 5) 1;",
            "begin(); crash(0) 0; put(0, 0:31, 5) DOWN; put(0, 1:0, 5) 1;");
        holds("put: another transaction holds it: BUSY",
            WRITING + "begin() 1; put(1, 0:1, 5) BUSY; put(1, 0:2, 5) BUSY; put(1, 2:1, 5) 1; put(0, 2:1, 5) BUSY; get(0, 2:1) 30;"
                + "get(1, 2:1) 5; written(1, 0) 0; abort(0) 4; put(1, 0:1, 5) 1;",
            "begin(); begin(); put(0, 0:5, 1) 1; put(0, 0:5, 2) 1; put(1, 0:5, 1) BUSY; remove(0, 0:5) 1; put(1, 0:5, 1) BUSY;");
        holds("put: t has written six other keys in the store, and not this one: FULL",
            SIX + "put(0, 0:16, 1) FULL; put(0, 0:0, 1) FULL; put(0, 0:31, 1) FULL; written(0, 0) 6; get(0, 0:16) NONE; abort(0) 6;",
            SIX + "put(0, 0:10, 2) 6; put(0, 0:15, 2) 6; get(0, 0:10) 2; put(0, 0:16, 1) FULL;",
            SIX + "put(0, 1:16, 1) 1; put(0, 2:16, 1) 1; begin() 1; put(1, 0:16, 1) 1; put(0, 0:16, 1) BUSY;",
            SIX + "remove(0, 0:10) 6; put(0, 0:16, 1) FULL; put(0, 0:10, 3) 6; get(0, 0:10) 3;",
            SIX + "commit(0, 0, 0, 0) 1; count(0) 7; begin() 0; put(0, 0:16, 1) 1;");
        holds("put: Else answers how many keys it has written in the store then",
            "begin(); put(0, 0:0, 1) 1; put(0, 1:0, 1) 1; put(0, 0:1, 1) 2; put(0, 0:0, 2) 2; put(0, 2:0, 1) 1; put(0, 0:2, 1) 3;"
                + "remove(0, 0:1) 3; put(0, 0:1, 4) 3; written(0, 0) 3; written(0, 1) 1; written(0, 2) 1;");
        holds("put: code is 32 * store + key, for a store and key of their ranges",
            "begin(); put(0, 0, 1) 1; put(0, 31, 2) 2; put(0, 32, 3) 1; put(0, 63, 4) 2; put(0, 64, 5) 1; put(0, 95, 6) 2;"
                + "written(0, 0) 2; written(0, 1) 2; written(0, 2) 2; get(0, 31) 2; get(0, 32) 3; get(0, 63) 4; get(0, 64) 5;"
                + "commit(0, 0, 0, 0) 1; next(0, 0) 31; next(1, -1) 0; next(1, 0) 31; next(2, -1) 0; next(2, 0) 31;");
    }

    private static void remove() {
        holds("remove: t is doomed: DOOMED", DOOMED_ONE + "remove(0, 0:1) DOOMED; remove(0, 2:1) DOOMED; remove(0, 1:1) DOOMED; abort(0) 0;");
        holds("remove: the store is down: DOWN", FILLED + "begin(); crash(2) 0; remove(0, 2:1) DOWN; remove(0, 1:1) 1; start(2) 1; remove(0, 2:1) 1;");
        holds("remove: another transaction holds it: BUSY", WRITING + "begin() 1; remove(1, 0:1) BUSY; abort(0) 4; remove(1, 0:1) 1;");
        holds("remove: t has written six other keys in the store, and not this one: FULL",
            SIX + "remove(0, 0:1) FULL; get(0, 0:1) 10; remove(0, 0:15) 6; remove(0, 0:10) 6; remove(0, 0:1) FULL; remove(0, 1:1) 1;",
            FILLED + "begin(); remove(0, 0:1) 1; put(0, 0:2, 1) 2; put(0, 0:3, 1) 3; put(0, 0:4, 1) 4; put(0, 0:5, 1) 5; remove(0, 0:5) 5;"
                + "put(0, 0:6, 1) 6; put(0, 0:7, 1) FULL; put(0, 0:1, 1) 6;",
            SIX + "commit(0, 0, 0, 0) 1; begin(); remove(0, 0:1) 1; remove(0, 0:10) 2; remove(0, 0:11) 3; remove(0, 0:12) 4;"
                + "remove(0, 0:13) 5; remove(0, 0:14) 6; remove(0, 0:15) FULL; commit(0, 0, 0, 0) 1; count(0) 1; next(0, -1) 15;");
        holds("remove: last of all: t sees no value of the key: NONE",
            FILLED + "begin(); remove(0, 0:2) NONE; written(0, 0) 0; remove(0, 0:1) 1; remove(0, 0:1) NONE; written(0, 0) 1; get(0, 0:1) NONE;",
            "begin(); put(0, 0:2, 0) 1; remove(0, 0:2) 1; remove(0, 0:2) NONE; put(0, 0:2, 4) 1; remove(0, 0:2) 1; commit(0, 0, 0, 0) 1; look(0:2) NONE;",
            SIX + "remove(0, 0:10) 6; remove(0, 0:10) NONE; written(0, 0) 6;");
        holds("remove: Else answers how many keys it has written in the store then",
            WRITING + "remove(0, 0:1) 2; remove(0, 0:2) 2; remove(0, 2:1) 1; written(0, 0) 2; written(0, 2) 1; commit(0, 0, 0, 0) 1; count(0) 0; count(1) 2; count(2) 0;");
    }

    private static void get() {
        holds("get: t is doomed: DOOMED", DOOMED_ONE + "get(0, 0:1) DOOMED; get(0, 1:1) DOOMED; get(0, 2:1) DOOMED; get(0, 1:9) DOOMED;");
        holds("get: the store is down: DOWN", FILLED + "begin(); crash(1) 0; get(0, 1:1) DOWN; get(0, 0:1) 10; get(0, 2:1) 30; start(1) 1; get(0, 1:1) 20;");
        holds("get: it sees none: NONE",
            WRITING + "begin() 1; get(1, 0:2) NONE; get(1, 0:0) NONE; get(1, 2:31) NONE; remove(0, 0:1) 2; get(0, 0:1) NONE; get(1, 0:1) 10;");
        holds("get: A key that another transaction holds may be read",
            WRITING + "begin() 1; get(1, 0:1) 10; get(1, 1:1) 20; put(0, 0:1, 9) 2; get(1, 0:1) 10; written(1, 0) 0; put(0, 0:1, 8) 2; get(0, 0:1) 8;");
    }

    private static void commit() {
        holds("commit: t is not good: BAD", forWrongTransactions(WRITING + "commit(#, 0, 0, 0) BAD; commit(#, 2, 0, 0) BAD; status(0) 1; isUp(3) 1; abort(0) 4;"));
        holds("commit: t is not good: BAD", "commit(0, 0, 0, 0) BAD; commit(3, 5, 0, 0) BAD; isUp(0) 1; isUp(3) 1;",
            WRITING + "commit(1, 1, 0, 0) BAD; commit(0, 0, 0, 0) 1; commit(0, 5, 0, 0) BAD; isUp(0) 1; isUp(3) 1;");
        holds("commit: kind not 0 .. 5: BAD", forEach(WRITING + "commit(0, #, 0, 0) BAD; status(0) 1; isUp(0) 1; isUp(3) 1; abort(0) 4;",
            "-1", "-2", "6", "7", "LEAST", "GREATEST"));
        for (String kind : new String[] {"0", "1", "2", "3", "4", "5"}) {
            holds("commit: store not good: BAD", forWrongStores(WRITING + "commit(0, " + kind + ", #, 0) BAD; status(0) 1; isUp(3) 1; abort(0) 4;"));
            holds("commit: If t is doomed: it is not done, nothing crashes, and the answer is DOOMED (it has ended all the same)",
                forEach(DOOMED_ONE + "begin() 1; put(1, 0:5, 1); commit(0, " + kind + ", #, 9) DOOMED; status(0) 0; status(1) 1; isUp(0) 1; isUp(1) 1;"
                    + "isUp(2) 1; isUp(3) 1; look(0:1) 10; look(2:1) 30; doubtful(0) 0; begin() 0;", "0", "1", "2"));
            commitOfAnySteps(kind);
        }
        commitKinds();
        commitKindsBesideOthers();
    }

    private static void commitOfAnySteps(String kind) {
        boolean done = !kind.equals("1") && !kind.equals("4");
        holds("commit: steps (any int) shows in no answer", forEach(WRITING + "commit(0, " + kind + ", 1, #);"
            + "startLeader(); start(1);" + (done ? DONE_0 + DONE_1 : NOT_DONE_0 + NOT_DONE_1) + SAME_2,
            "LEAST", "-1", "0", "1", "2", "3", "4", "5", "6", "7", "100", "GREATEST"));
    }

    private static void commitKinds() {
        holds("commit: 0: it is done; 1", WRITING + "commit(0, 0, 0, 0) 1; isUp(0) 1; isUp(3) 1;" + DONE_0 + DONE_1 + SAME_2,
            WRITING + "commit(0, 0, 2, 0) 1; isUp(2) 1;" + DONE_0 + DONE_1 + SAME_2, "begin(); commit(0, 0, 0, 0) 1; status(0) 0; count(0) 0;");
        holds("commit: 1: the leader crashes before it decides: it is never to be done, and all of P are in doubt about it; DOUBT",
            WRITING + "commit(0, 1, 0, 0) DOUBT; isUp(0) 1; isUp(1) 1; isUp(2) 1; isUp(3) 0;" + IN_DOUBT_0 + IN_DOUBT_1 + SAME_2
                + "startLeader() 1;" + NOT_DONE_0 + NOT_DONE_1 + SAME_2 + "begin() 0; put(0, 0:1, 4) 1;",
            "begin(); commit(0, 1, 0, 0) DOUBT; isUp(0) 1; isUp(3) 0; doubtful(0) 0; status(0) 0;");
        holds("commit: 2: the leader crashes right after deciding: it is to be done, and all of P are in doubt about it; DOUBT",
            WRITING + "commit(0, 2, 0, 0) DOUBT; isUp(0) 1; isUp(1) 1; isUp(2) 1; isUp(3) 0;" + IN_DOUBT_0 + IN_DOUBT_1 + SAME_2
                + "startLeader() 1;" + DONE_0 + DONE_1 + SAME_2 + "begin() 0; put(0, 0:1, 4) 1;",
            "begin(); commit(0, 2, 0, 0) DOUBT; isUp(0) 1; isUp(3) 0; doubtful(0) 0; status(0) 0;");
        holds("commit: 3: the others of P have it done, and the store has when it comes up (if the leader is up then; else it is in doubt); 1",
            WRITING + "commit(0, 3, 0, 0) 1; isUp(0) 0; isUp(1) 1; isUp(3) 1; look(0:1) DOWN;" + DONE_1 + "start(0) 1;" + DONE_0 + SAME_2,
            WRITING + "commit(0, 3, 1, 0) 1; isUp(0) 1; isUp(1) 0; isUp(3) 1;" + DONE_0 + "crashLeader() 0; start(1) 1;" + IN_DOUBT_1 + DONE_0
                + "startLeader() 1;" + DONE_1,
            FILLED + "begin(); remove(0, 2:1) 1; commit(0, 3, 2, 0) 1; isUp(2) 0; start(2) 1; look(2:1) NONE; count(2) 0;");
        holds("commit: 3: If the store is not in P, this is kind 0",
            WRITING + "commit(0, 3, 2, 0) 1; isUp(2) 1; isUp(3) 1;" + DONE_0 + DONE_1 + SAME_2,
            WRITING + "crash(2) 0; commit(0, 3, 2, 0) 1; isUp(2) 0; isUp(3) 1;" + DONE_0 + DONE_1 + "start(2) 1;" + SAME_2,
            FILLED + "begin(); get(0, 2:1) 30; remove(0, 2:2) NONE; commit(0, 3, 2, 0) 1; isUp(2) 1;");
        holds("commit: 4: the store crashes before it is ready, if it is in P: it is not done anywhere; 0",
            WRITING + "commit(0, 4, 0, 0) 0; isUp(0) 0; isUp(1) 1; isUp(3) 1;" + NOT_DONE_1 + "start(0) 1;" + NOT_DONE_0 + SAME_2,
            WRITING + "commit(0, 4, 1, 0) 0; isUp(0) 1; isUp(1) 0;" + NOT_DONE_0 + "crashLeader() 0; start(1) 1;" + NOT_DONE_1);
        holds("commit: 4: If the store is not in P, this is kind 0",
            WRITING + "commit(0, 4, 2, 0) 1; isUp(2) 1; isUp(3) 1;" + DONE_0 + DONE_1 + SAME_2,
            WRITING + "crash(2) 0; commit(0, 4, 2, 0) 1; isUp(2) 0; isUp(3) 1;" + DONE_0 + DONE_1 + "start(2) 1;" + SAME_2,
            FILLED + "begin(); get(0, 2:1) 30; remove(0, 2:2) NONE; commit(0, 4, 2, 0) 1; isUp(2) 1;");
        holds("commit: 5: as 2, and then the store crashes too, whether it is in P or not; DOUBT",
            WRITING + "commit(0, 5, 0, 0) DOUBT; isUp(0) 0; isUp(1) 1; isUp(2) 1; isUp(3) 0; status(0) 0;" + IN_DOUBT_1 + SAME_2
                + "start(0) 1;" + IN_DOUBT_0 + "startLeader() 1;" + DONE_0 + DONE_1,
            WRITING + "commit(0, 5, 2, 0) DOUBT; isUp(0) 1; isUp(1) 1; isUp(2) 0; isUp(3) 0;" + IN_DOUBT_0 + IN_DOUBT_1
                + "start(2) 1;" + SAME_2 + "startLeader() 1;" + DONE_0 + DONE_1 + SAME_2,
            "begin(); commit(0, 5, 1, 0) DOUBT; isUp(1) 0; isUp(3) 0; start(1) 1; doubtful(1) 0;");
    }

    private static void commitKindsBesideOthers() {
        String others = WRITING + "begin() 1; put(1, 0:9, 1); put(1, 2:9, 1) 1; begin() 2; put(2, 1:9, 1) 1; begin() 3;";
        holds("commit: A store that crashes here crashes as said above",
            others + "commit(0, 3, 0, 0) 1; status(0) 0; status(1) 2; status(2) 1; status(3) 1; put(3, 2:9, 4) 1; written(2, 1) 1; start(0) 1; look(0:9) NONE;",
            others + "commit(0, 4, 0, 0) 0; status(0) 0; status(1) 2; status(2) 1; status(3) 1; put(3, 2:9, 4) 1; written(2, 1) 1; put(3, 1:1, 4) 1;",
            others + "commit(0, 3, 2, 0) 1; status(0) 0; status(1) 1; status(2) 1; written(1, 0) 1;",
            others + "commit(0, 0, 0, 0) 1; status(1) 1; status(2) 1; status(3) 1; written(1, 0) 1; written(2, 1) 1;");
        holds("commit: A leader that crashes here crashes as said above",
            forEach(others + "commit(0, #, 1, 0) DOUBT; status(0) 0; status(1) 0; status(2) 0; status(3) 0; begin() DOWN; startLeader() 1; start(1);"
                + "look(0:9) NONE; look(1:9) NONE; look(2:9) NONE; begin() 0;", "1", "2", "5"));
        holds("commit: all of P are in doubt about it: what others have written there is not doubtful",
            forEach(others + "commit(0, #, 2, 0) DOUBT; doubtful(0) 2; doubtful(1) 2; look(0:9) NONE; look(1:9) NONE;", "1", "2", "5"));
        holds("(All answers of 0, 1, DOUBT and DOOMED mean that the transaction has ended.)",
            forEach(WRITING + "commit(0, #, 1, 0); status(0) 0; abort(0) BAD; written(0, 0) BAD;", "0", "1", "2", "3", "4", "5"));
    }

    private static void transactionQuestions() {
        holds("abort: t is not good: BAD", forWrongTransactions(WRITING + "abort(#) BAD; status(0) 1; written(0, 0) 2;"));
        holds("abort: t is not good: BAD", "abort(0) BAD; abort(3) BAD;", "begin(); abort(0) 0; abort(0) BAD; abort(1) BAD;",
            FOUR + "crashLeader() 4; abort(0) BAD; abort(3) BAD;");
        holds("abort: Else answers how many keys it held in all stores together",
            WRITING + "abort(0) 4;" + NOT_DONE_0 + NOT_DONE_1, "begin(); abort(0) 0;", DOOMED_ONE + "abort(0) 0; status(0) 0;",
            SIX + "put(0, 1:0, 1); put(0, 1:1, 1); put(0, 1:2, 1); put(0, 1:3, 1); put(0, 1:4, 1); put(0, 1:5, 1) 6; put(0, 2:0, 1); put(0, 2:1, 1);"
                + "put(0, 2:2, 1); put(0, 2:3, 1); put(0, 2:4, 1); put(0, 2:31, 1) 6; begin() 1; put(1, 1:6, 1); abort(0) 18; abort(1) 1;",
            FILLED + "begin(); remove(0, 0:1) 1; put(0, 0:2, 1) 2; put(0, 0:2, 2) 2; abort(0) 2; look(0:1) 10;");
        holds("status: 0 if the transaction is not running, 1 if it is, 2 if it is doomed",
            DOOMED_ONE + "begin() 1; status(0) 2; status(1) 1; status(2) 0; status(3) 0; abort(0); status(0) 0; crashLeader() 1; status(1) 0;",
            FOUR + "status(0) 1; status(3) 1;");
        holds("status: t is not 0 .. 3: BAD", forWrongTransactions(FOUR + "status(#) BAD;"));
        holds("written: t is not good, or store is not good: BAD", forWrongTransactions(WRITING + "written(#, 0) BAD;"));
        holds("written: t is not good, or store is not good: BAD", forWrongStores(WRITING + "written(0, #) BAD;"));
        holds("written: t is not good, or store is not good: BAD", "written(0, 0) BAD;", WRITING + "written(1, 0) BAD; abort(0); written(0, 0) BAD;");
        holds("written: How many keys the transaction holds in a store",
            SIX + "begin() 1; put(1, 0:3, 1); written(0, 0) 6; written(0, 1) 0; written(0, 2) 0; written(1, 0) 1;",
            FILLED + "begin(); written(0, 0) 0; remove(0, 0:1) 1; written(0, 0) 1; put(0, 0:1, 1); written(0, 0) 1; crash(1) 0; written(0, 1) 0; written(0, 0) 1;",
            DOOMED_ONE + "written(0, 0) 0; written(0, 1) 0; written(0, 2) 0;");
    }

    private static void upAndDown() {
        holds("crash: store is not good: BAD", forWrongStores(WRITING + "crash(#) BAD; status(0) 1; isUp(0) 1; isUp(1) 1; isUp(2) 1; isUp(3) 1;"));
        holds("crash: it is down: DOWN", "crash(1) 0; crash(1) DOWN; crash(1) DOWN; isUp(1) 0; crash(0) 0; start(1) 1; crash(1) 0;",
            WRITING + "crash(2) 0; crash(2) DOWN; status(0) 1;");
        holds("crash: Else answers how many transactions were doomed by that",
            FOUR + "put(0, 1:0, 1); put(1, 1:1, 1); put(2, 1:2, 1); put(3, 1:3, 1); crash(0) 0; crash(1) 4; start(1) 1; crash(1) 0;",
            FOUR + "put(0, 1:0, 1); put(0, 2:0, 1); put(1, 2:1, 1); put(1, 2:2, 1); crash(1) 1; crash(2) 1; crash(0) 0;",
            WRITING + "crashLeader() 1; crash(0) 0;", "crash(0) 0;", WRITING + "commit(0, 1, 0, 0) DOUBT; crash(0) 0; crash(1) 0;",
            WRITING + "abort(0) 4; crash(0) 0;");
        holds("start: store is not good: BAD", forWrongStores("crash(0); crash(1); crash(2); crashLeader(); start(#) BAD; isUp(0) 0; isUp(1) 0; isUp(2) 0; isUp(3) 0;"));
        holds("start: Answers 0 if it was up, else 1", "start(0) 0; start(1) 0; start(2) 0; crash(1) 0; start(0) 0; start(1) 1; isUp(1) 1; start(1) 0;",
            WRITING + "start(0) 0; status(0) 1; written(0, 0) 2; get(0, 0:1) 11;", "crashLeader(); start(0) 0; crash(0); start(0) 1; start(0) 0; isUp(3) 0;",
            DOOMED_ONE + "status(0) 2; start(2) 0; status(0) 2;");
        holds("crashLeader: It is down: DOWN", "crashLeader() 0; crashLeader() DOWN; crashLeader() DOWN; isUp(3) 0;",
            WRITING + "commit(0, 2, 0, 0) DOUBT; crashLeader() DOWN;" + IN_DOUBT_0 + "startLeader() 1;" + DONE_0);
        holds("crashLeader: Else answers how many transactions ended by that", "crashLeader() 0;", FOUR + "crashLeader() 4; startLeader() 1; crashLeader() 0;",
            FOUR + "put(1, 0:0, 1); crash(0) 1; abort(3) 0; crashLeader() 3;");
        holds("startLeader: Answers 0 if it was up, else 1", "startLeader() 0; crashLeader() 0; startLeader() 1; startLeader() 0; isUp(3) 1;",
            WRITING + "startLeader() 0; status(0) 1; written(0, 0) 2;", "crash(0); crashLeader(); startLeader() 1; isUp(0) 0; isUp(1) 1;");
        holds("isUp: 1 if a store (3: the leader) is up, else 0", "crash(0); crash(2); isUp(0) 0; isUp(1) 1; isUp(2) 0; isUp(3) 1; crashLeader(); isUp(3) 0;");
        holds("isUp: BAD if store is not 0 .. 3", forEach("isUp(#) BAD;", "-1", "-2", "4", "5", "LEAST", "GREATEST"));
    }

    private static void idle() {
        String[] some = {"LEAST", "-1", "0", "1", "2", "3", "4", "100", "GREATEST"};
        for (String steps : some) {
            String idle = "idle(#, " + steps + ");";
            holds("idle: Changes no answer of any call, whatever the arguments",
                forEach(WRITING + idle + "status(0) 1; written(0, 0) 2; get(0, 0:1) 11;" + NOT_DONE_0 + idle + "commit(0, 5, 1, 0) DOUBT;" + idle
                    + IN_DOUBT_0 + "isUp(1) 0; isUp(3) 0; start(1) 1;" + idle + IN_DOUBT_1 + "startLeader() 1;" + idle + DONE_0 + DONE_1, some));
            holds("idle: Changes no answer of any call, whatever the arguments",
                forEach(WRITING + "commit(0, 3, 1, 1) 1;" + idle + "isUp(1) 0; crashLeader() 0; start(1) 1;" + idle + IN_DOUBT_1 + "startLeader() 1;" + DONE_1
                    + "crash(2) 0;" + idle + "isUp(2) 0; begin() 0; put(0, 0:1, 1) 1; crash(0) 1;" + idle + "status(0) 2;", some));
        }
    }

    private static void look() {
        holds("look: The value of a key in the contents (whoever holds it)", WRITING + "look(0:1) 10; remove(0, 2:1) 1; look(2:1) 30; look(0:2) NONE;");
        holds("look: code is not as in put: BAD", forWrongCodes(FILLED + "look(#) BAD;"));
        holds("look: the store is down: DOWN", FILLED + "crash(1) 0; look(1:1) DOWN; look(1:0) DOWN; look(1:31) DOWN; look(0:31) NONE; look(2:0) NONE; look(0:1) 10;");
        holds("look: the key is doubtful: DOUBT", WRITING + "commit(0, 1, 0, 0) DOUBT; look(0:1) DOUBT; look(0:2) DOUBT; look(0:0) NONE; look(0:3) NONE; look(2:1) 30;");
        holds("look: it has none: NONE", FILLED + "look(0:0) NONE; look(0:2) NONE; look(0:31) NONE; look(2:31) NONE; begin(); remove(0, 0:1); commit(0, 0, 0, 0); look(0:1) NONE;");
    }

    // Six keys of a store at a time, until all 32 have the value.
    private static String fullStore(int store, int value) {
        StringBuilder run = new StringBuilder();
        for (int key = 0; key < 32; key++) {
            if (key % 6 == 0) {
                run.append("begin() 0;");
            }
            run.append("put(0, " + store + ":" + key + ", " + value + ") " + (key % 6 + 1) + ";");
            if (key % 6 == 5 || key == 31) {
                run.append("commit(0, 0, 0, 0) 1;");
            }
        }
        return run.toString();
    }

    private static void storeQuestions() {
        holds("count: store is not good: BAD", forWrongStores(FILLED + "count(#) BAD;"));
        holds("count: it is down: DOWN", FILLED + "crash(2) 0; count(2) DOWN; count(1) 1; start(2); count(2) 1;", "crash(0) 0; count(0) DOWN; crashLeader(); count(1) 0;");
        holds("count: How many keys of a store have values in the contents: none, and all",
            "count(0) 0;", fullStore(0, 0) + "count(0) 32; count(1) 0; begin(); remove(0, 0:31); remove(0, 0:0); count(0) 32; commit(0, 0, 0, 0); count(0) 30;",
            fullStore(2, 5) + "count(2) 32; count(1) 0;");
        holds("next: The least key greater than after (any int) that has a value",
            "begin(); put(0, 1:0, 1); put(0, 1:7, 1); put(0, 1:31, 1); put(0, 2:9, 1); next(1, -1) NONE; commit(0, 0, 0, 0) 1; next(1, LEAST) 0; next(1, -100) 0;"
                + "next(1, -2) 0; next(1, -1) 0; next(1, 0) 7; next(1, 6) 7; next(1, 7) 31; next(1, 30) 31; next(1, 31) NONE; next(1, 32) NONE;"
                + "next(1, 100) NONE; next(1, GREATEST) NONE; next(0, LEAST) NONE; next(0, 31) NONE; next(2, LEAST) 9; next(2, 9) NONE;");
        holds("next: (doubtful or not)",
            FILLED + "begin(); remove(0, 0:1); put(0, 0:3, 1); commit(0, 2, 0, 0) DOUBT; next(0, -1) 1; next(0, 0) 1; next(0, 1) NONE; startLeader() 1; next(0, -1) 3;",
            WRITING + "commit(0, 1, 0, 0) DOUBT; next(0, -1) 1; next(0, 1) NONE;");
        holds("next: store is not good: BAD", forWrongStores(FILLED + "next(#, -1) BAD; next(#, 31) BAD;"));
        holds("next: it is down: DOWN", FILLED + "crash(0) 0; next(0, -1) DOWN; next(0, LEAST) DOWN; next(1, -1) 1;");
        holds("next: there is none: NONE", FILLED + "next(0, 1) NONE; next(0, 0) 1; begin(); remove(0, 0:1); next(0, 0) 1; commit(0, 0, 0, 0); next(0, 0) NONE;");
        holds("total: store is not good: BAD", forWrongStores(FILLED + "total(#) BAD;"));
        holds("total: it is down: DOWN", FILLED + "crash(1) 0; total(1) DOWN; total(0) 10; start(1); total(1) 20;");
        holds("total: The sum of all values in the contents of a store: of none, and of all",
            "total(0) 0; total(2) 0;", fullStore(1, 999) + "total(1) 31968; total(0) 0; total(2) 0;", fullStore(2, 0) + "total(2) 0; count(2) 32;");
        holds("doubtful: store is not good: BAD", forWrongStores(WRITING + "commit(0, 1, 0, 0); doubtful(#) BAD;"));
        holds("doubtful: it is down: DOWN", WRITING + "commit(0, 2, 0, 0); crash(0) 0; doubtful(0) DOWN; doubtful(1) 2;", "crash(2); doubtful(2) DOWN; doubtful(1) 0;",
            WRITING + "commit(0, 3, 0, 0) 1; doubtful(0) DOWN;");
        holds("doubtful: How many keys of a store are doubtful: none, and six",
            WRITING + "doubtful(0) 0; doubtful(2) 0; commit(0, 0, 0, 0) 1; doubtful(0) 0;",
            SIX + "remove(0, 0:10) 6; commit(0, 2, 0, 0) DOUBT; doubtful(0) 6; doubtful(1) 0; startLeader(); doubtful(0) 0; count(0) 6;");
        holds("faults: always 0", "faults() 0;", "crash(0); crashLeader(); faults() 0; start(0); faults() 0;", SIX + "faults() 0; crash(0) 1; faults() 0;",
            WRITING + "faults() 0; commit(0, 5, 0, 1); faults() 0; start(0); faults() 0; startLeader(); faults() 0;",
            WRITING + "commit(0, 3, 0, 1); faults() 0; crashLeader(); start(0); faults() 0;", fullStore(0, 999) + "faults() 0;");
    }

    private static void orderAndLimits() {
        holds("commit, kind 5: a store that is down already stays down",
            WRITING + "crash(2) 0; commit(0, 5, 2, 0) DOUBT; isUp(2) 0; isUp(3) 0; crash(2) DOWN;" + IN_DOUBT_0 + IN_DOUBT_1
                + "start(2) 1;" + SAME_2 + "startLeader() 1;" + DONE_0 + DONE_1,
            WRITING + "commit(0, 1, 0, 0) DOUBT; crash(0) 0; startLeader() 1; begin() 0; put(0, 1:2, 9); commit(0, 5, 0, 0) DOUBT; isUp(0) 0; start(0) 1;"
                + IN_DOUBT_0 + "doubtful(1) 1; startLeader() 1;" + NOT_DONE_0 + "look(1:2) 9;",
            "begin(); crash(0); commit(0, 5, 0, 0) DOUBT; isUp(0) 0; start(0) 1; start(0) 0;");
    }

    public static void main(String[] args) {
        use();
        parties();
        contents();
        transactions();
        doubt();
        crashes();
        begin();
        putAndRemoveBad();
        put();
        remove();
        get();
        commit();
        transactionQuestions();
        upAndDown();
        idle();
        look();
        storeQuestions();
        orderAndLimits();
        SENTENCES.exitIfWrong();
    }
}
