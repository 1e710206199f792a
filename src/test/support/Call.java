import java.util.ArrayList;
import java.util.List;

// A call written as text, as in "put(0, 1:31, 999) 1": the method, its arguments and, where a
// run tells it, the answer that is due. 1:31 is the code of key 31 of store 1.
final class Call {
    static final int BAD = -1, NONE = -2, BUSY = -3, DOWN = -4, DOUBT = -5, DOOMED = -6, FULL = -7;

    final String text;
    final String method;
    final int[] with;
    final boolean hasDue;
    final int due;

    Call(String written) {
        int open = written.indexOf('(');
        int close = written.indexOf(')');
        if (open < 1 || close < open) {
            throw new IllegalArgumentException("not a call: " + written);
        }
        text = written.substring(0, close + 1).trim();
        method = written.substring(0, open).trim();
        String inside = written.substring(open + 1, close).trim();
        String[] words = inside.isEmpty() ? new String[0] : inside.split(",");
        with = new int[words.length];
        for (int i = 0; i < words.length; i++) {
            with[i] = number(words[i].trim());
        }
        String answer = written.substring(close + 1).trim();
        hasDue = !answer.isEmpty();
        due = hasDue ? number(answer) : 0;
    }

    // Calls with semicolons between them.
    static List<Call> run(String written) {
        List<Call> calls = new ArrayList<>();
        for (String one : written.split(";")) {
            if (!one.isBlank()) {
                calls.add(new Call(one));
            }
        }
        return calls;
    }

    // The numbers of the constants stand here too, so that a wrong constant is found.
    static int number(String word) {
        switch (word) {
            case "BAD": return BAD;
            case "NONE": return NONE;
            case "BUSY": return BUSY;
            case "DOWN": return DOWN;
            case "DOUBT": return DOUBT;
            case "DOOMED": return DOOMED;
            case "FULL": return FULL;
            case "LEAST": return Integer.MIN_VALUE;
            case "GREATEST": return Integer.MAX_VALUE;
            default: break;
        }
        int colon = word.indexOf(':');
        if (colon < 0) {
            return Integer.parseInt(word);
        }
        return 32 * Integer.parseInt(word.substring(0, colon)) + Integer.parseInt(word.substring(colon + 1));
    }

    int make(VolumeCommit x) {
        switch (method) {
            case "begin": return x.begin();
            case "put": return x.put(with[0], with[1], with[2]);
            case "remove": return x.remove(with[0], with[1]);
            case "get": return x.get(with[0], with[1]);
            case "commit": return x.commit(with[0], with[1], with[2], with[3]);
            case "abort": return x.abort(with[0]);
            case "status": return x.status(with[0]);
            case "written": return x.written(with[0], with[1]);
            case "crash": return x.crash(with[0]);
            case "start": return x.start(with[0]);
            case "crashLeader": return x.crashLeader();
            case "startLeader": return x.startLeader();
            case "isUp": return x.isUp(with[0]);
            case "idle": x.idle(with[0], with[1]); return 0;
            case "look": return x.look(with[0]);
            case "count": return x.count(with[0]);
            case "next": return x.next(with[0], with[1]);
            case "total": return x.total(with[0]);
            case "doubtful": return x.doubtful(with[0]);
            case "faults": return x.faults();
            default: throw new IllegalArgumentException("no such method: " + method);
        }
    }
}
