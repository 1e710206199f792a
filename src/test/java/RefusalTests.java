import java.util.ArrayList;
import java.util.Arrays;
import java.util.List;
import java.util.Set;
import java.util.TreeSet;

// "A refused call (an answer below 0, if not said otherwise) changes nothing. Questions change
// nothing." In each state every such call of a grid of arguments is made on an object of its own,
// and what later calls answer is compared with what they answer where the call was not made.
public final class RefusalTests {
    private static final int MOST_CALLS = 512;
    private static final int MOST_TOLD = 20;

    private static final Set<String> QUESTIONS = new TreeSet<>(Arrays.asList(
        "get", "status", "written", "isUp", "idle", "look", "count", "next", "total", "doubtful", "faults"));

    private static final String FILLED =
        "begin(); put(0, 0:1, 10); put(0, 1:1, 20); put(0, 2:1, 30); put(0, 0:3, 40); put(0, 1:3, 50); commit(0, 0, 0, 0) 1;";
    private static final String WRITING = FILLED
        + "begin(); put(0, 0:1, 11); put(0, 0:2, 5); put(0, 1:1, 12); put(0, 1:2, 6); remove(0, 1:3) 3;";

    private static final String[] STATES = {
        "",
        "begin();",
        "begin(); begin(); begin(); begin();",
        FILLED,
        WRITING,
        // Two hold keys, each beside the other, and two have written nothing.
        WRITING + "begin(); put(1, 0:3, 7); put(1, 2:1, 8); begin(); begin();",
        // Six keys of store 0 are written, key 0:10 of them removed again.
        FILLED + "begin(); put(0, 0:10, 1); put(0, 0:11, 1); put(0, 0:12, 1); put(0, 0:13, 1); put(0, 0:14, 1); put(0, 0:15, 1);"
            + "remove(0, 0:10); begin(); put(1, 0:1, 2);",
        // The same with a store down.
        FILLED + "begin(); remove(0, 0:1); remove(0, 0:3); put(0, 0:12, 1); put(0, 0:13, 1); put(0, 0:14, 1); put(0, 0:15, 1);"
            + "begin(); put(1, 0:2, 2); crash(2);",
        // One is doomed beside others.
        WRITING + "begin(); put(1, 2:1, 8); put(1, 0:3, 9); crash(1);",
        WRITING + "begin(); put(1, 2:1, 8); put(1, 0:3, 9); begin(); crash(1); start(1); put(2, 1:1, 4);",
        // All four are doomed, and the store is down or up.
        "begin(); begin(); begin(); begin(); put(0, 1:0, 1); put(1, 1:1, 1); put(2, 1:2, 1); put(3, 1:3, 1); crash(1);",
        "begin(); begin(); begin(); begin(); put(0, 1:0, 1); put(1, 1:1, 1); put(2, 1:2, 1); put(3, 1:3, 1); crash(1); start(1);",
        FILLED + "begin(); crash(0); crash(1); crash(2);",
        WRITING + "crashLeader();",
        WRITING + "crashLeader(); crash(0);",
        // In doubt: to be done or never to be.
        WRITING + "commit(0, 1, 0, 0);",
        WRITING + "commit(0, 2, 0, 0);",
        WRITING + "commit(0, 1, 0, 0); crash(0);",
        WRITING + "commit(0, 5, 0, 0);",
        WRITING + "commit(0, 5, 2, 0);",
        // Store 0 is down and in doubt while others run, or while others are in doubt too.
        WRITING + "commit(0, 3, 0, 0); begin(); put(0, 1:1, 4);",
        WRITING + "commit(0, 1, 0, 0); crash(0); startLeader(); begin(); put(0, 1:1, 4); put(0, 2:2, 4); begin();",
        WRITING + "commit(0, 1, 0, 0); crash(0); startLeader(); begin(); put(0, 1:1, 4); commit(0, 2, 1, 0);",
        WRITING + "commit(0, 3, 0, 0); begin(); put(0, 2:1, 4); begin(); put(1, 1:3, 3); put(1, 2:3, 3); crash(2); start(2);",
        WRITING + "commit(0, 3, 0, 0); begin(); put(0, 1:1, 4); commit(0, 1, 1, 0); start(0);",
        WRITING + "commit(0, 4, 0, 0); begin(); begin(); put(1, 1:3, 3);",
    };

    // What has to be met by the calls below, so that no refusal goes without a look. DOUBT from
    // put, remove and get can't be reached: see OrderTests.
    private static final String[] REFUSALS = {
        "begin DOWN", "begin FULL", "put BAD", "put DOOMED", "put DOWN", "put BUSY", "put FULL", "remove BAD",
        "remove DOOMED", "remove DOWN", "remove BUSY", "remove FULL", "remove NONE", "get BAD", "get DOOMED",
        "get DOWN", "get NONE", "commit BAD", "abort BAD", "status BAD", "written BAD", "crash BAD", "crash DOWN",
        "start BAD", "crashLeader DOWN", "isUp BAD", "look BAD", "look DOWN", "look DOUBT", "look NONE", "count BAD",
        "count DOWN", "next BAD", "next DOWN", "next NONE", "total BAD", "total DOWN", "doubtful BAD", "doubtful DOWN",
    };
    private static final String[] NAMES = {"", "BAD", "NONE", "BUSY", "DOWN", "DOUBT", "DOOMED", "FULL"};

    private static final String[] TRANSACTIONS = {"-1", "0", "1", "2", "3", "4", "LEAST", "GREATEST"};
    private static final String[] STORES = {"-1", "0", "1", "2", "3", "LEAST", "GREATEST"};
    private static final String[] KINDS = {"-1", "0", "1", "2", "3", "4", "5", "6", "LEAST", "GREATEST"};
    private static final String[] CODES = {"-1", "0:0", "0:1", "0:2", "0:3", "0:10", "0:20", "0:31", "1:0", "1:1", "1:2",
        "1:3", "1:20", "2:0", "2:1", "2:2", "2:31", "96", "128", "LEAST", "GREATEST"};
    private static final String[] VALUES = {"-1", "0", "999", "1000", "LEAST", "GREATEST"};
    private static final String[] AFTER = {"LEAST", "-1", "0", "1", "31", "32", "GREATEST"};

    private static final List<Call> CALLS = calls();
    private static final List<List<Call>> LATER = later();
    private static final Set<String> met = new TreeSet<>();
    private static int wrong = 0;

    private static void add(List<Call> calls, String method, String[]... choices) {
        List<String> begun = new ArrayList<>();
        begun.add("");
        for (String[] words : choices) {
            List<String> longer = new ArrayList<>();
            for (String some : begun) {
                for (String word : words) {
                    longer.add(some.isEmpty() ? word : some + ", " + word);
                }
            }
            begun = longer;
        }
        for (String arguments : begun) {
            calls.add(new Call(method + "(" + arguments + ")"));
        }
    }

    private static List<Call> calls() {
        List<Call> calls = new ArrayList<>();
        add(calls, "begin");
        add(calls, "put", TRANSACTIONS, CODES, VALUES);
        add(calls, "remove", TRANSACTIONS, CODES);
        add(calls, "get", TRANSACTIONS, CODES);
        add(calls, "commit", TRANSACTIONS, KINDS, STORES, new String[] {"0", "3"});
        add(calls, "abort", TRANSACTIONS);
        add(calls, "status", TRANSACTIONS);
        add(calls, "written", TRANSACTIONS, STORES);
        add(calls, "crash", STORES);
        add(calls, "start", STORES);
        add(calls, "crashLeader");
        add(calls, "startLeader");
        add(calls, "isUp", STORES);
        add(calls, "idle", STORES, AFTER);
        add(calls, "look", CODES);
        add(calls, "count", STORES);
        add(calls, "next", STORES, AFTER);
        add(calls, "total", STORES);
        add(calls, "doubtful", STORES);
        add(calls, "faults");
        return calls;
    }

    private static String forAll(String call, int times) {
        StringBuilder run = new StringBuilder();
        for (int i = 0; i < times; i++) {
            run.append(call.replace("#", "" + i));
        }
        return run.toString();
    }

    // What may be called afterwards: several runs, each of which asks after another side of the state.
    private static List<List<Call>> later() {
        String stores = forAll("isUp(#); count(#); total(#); doubtful(#); next(#, -1); next(#, 1);", 3) + "isUp(3);";
        String transactions = forAll("status(#); written(#, 0); written(#, 1); written(#, 2);", 4);
        String contents = stores + forAll("look(#);", 96);
        String allUp = "startLeader();" + forAll("start(#);", 3);
        String[] runs = {
            transactions + contents,
            forAll("get(#, 0:1); get(#, 0:2); get(#, 0:10); get(#, 1:1); get(#, 1:3); get(#, 2:1); get(#, 2:31);", 4),
            forAll("get(0, #);", 96) + forAll("get(1, #);", 96),
            forAll("begin();", 5) + transactions,
            forAll("abort(#);", 4) + forAll("begin();", 5) + contents,
            forAll("commit(#, 0, 0, 0);", 4) + allUp + contents,
            forAll("commit(#, 3, 0, 0);", 4) + allUp + contents,
            forAll("commit(#, 2, 1, 0);", 4) + contents + allUp + contents,
            forAll("commit(3, 4, #, 0); commit(0, 1, #, 0);", 3) + contents + allUp + contents,
            forAll("crash(#);", 3) + transactions + "crashLeader();" + transactions + allUp + contents,
            "crashLeader();" + contents + forAll("start(#);", 3) + contents + "startLeader();" + contents,
            allUp + forAll("begin();", 4) + forAll("put(0, #, 9); remove(1, #);", 96) + transactions,
            forAll("put(3, 0:#, 9); put(1, 1:#, 9); remove(0, 2:#); remove(0, 0:#);", 32) + transactions,
        };
        List<List<Call>> later = new ArrayList<>();
        for (String run : runs) {
            later.add(Call.run(run));
        }
        return later;
    }

    private static VolumeCommit in(List<Call> state) {
        VolumeCommit x = new VolumeCommit();
        for (Call call : state) {
            call.make(x);
        }
        return x;
    }

    private static int[] answers(VolumeCommit x, List<Call> run) {
        int[] answers = new int[run.size()];
        for (int i = 0; i < answers.length; i++) {
            answers[i] = run.get(i).make(x);
        }
        return answers;
    }

    // "All answers of 0, 1, DOUBT and DOOMED mean that the transaction has ended": for commit it is said otherwise.
    private static boolean isRefused(Call call, int answer) {
        return call.method.equals("commit") ? answer == Call.BAD : answer < 0;
    }

    private static void changesNothing(String state, List<Call> before, Call call, int[][] due) {
        for (int i = 0; i < due.length; i++) {
            List<Call> run = LATER.get(i);
            VolumeCommit x = in(before);
            int answer = call.make(x);
            int[] got = answers(x, run);
            for (int at = 0; at < got.length; at++) {
                if (got[at] != due[i][at]) {
                    wrong++;
                    if (wrong > MOST_TOLD) {
                        return;
                    }
                    System.out.println("after " + call.text + ", which answered " + answer + ", " + run.get(at).text + " answered "
                        + got[at] + ", without it " + due[i][at] + "\n  in: " + state);
                    return;
                }
            }
        }
    }

    private static void checkState(String state) {
        List<Call> before = Call.run(state);
        int[][] due = new int[LATER.size()][];
        for (int i = 0; i < due.length; i++) {
            if (before.size() + 1 + LATER.get(i).size() > MOST_CALLS) {
                throw new IllegalArgumentException("too long a run");
            }
            due[i] = answers(in(before), LATER.get(i));
        }
        for (Call call : CALLS) {
            int answer = call.make(in(before));
            boolean refused = isRefused(call, answer);
            if (refused && answer >= -7) {
                met.add(call.method + " " + NAMES[-answer]);
            }
            if (refused || QUESTIONS.contains(call.method)) {
                changesNothing(state, before, call, due);
            }
        }
    }

    public static void main(String[] args) {
        for (String state : STATES) {
            checkState(state);
        }
        Set<String> missing = new TreeSet<>(Arrays.asList(REFUSALS));
        missing.removeAll(met);
        if (!missing.isEmpty()) {
            wrong++;
            System.out.println("refusals that no call met: " + missing);
        }
        Set<String> beyond = new TreeSet<>(met);
        beyond.removeAll(Arrays.asList(REFUSALS));
        if (!beyond.isEmpty()) {
            wrong++;
            System.out.println("refusals that no sentence names: " + beyond);
        }
        if (wrong > 0) {
            System.out.println(wrong + " wrong");
            System.exit(1);
        }
    }
}
