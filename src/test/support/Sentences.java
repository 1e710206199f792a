import java.util.List;

// Runs of calls on new objects, each told with the sentence of the document that it shows.
final class Sentences {
    // An object is used for at most so many calls.
    private static final int MOST_CALLS = 512;

    private int wrong = 0;

    // Every call of the run that tells an answer has to give it.
    void holds(String sentence, String... runs) {
        for (String run : runs) {
            check(sentence, run);
        }
    }

    private void check(String sentence, String run) {
        VolumeCommit x = new VolumeCommit();
        List<Call> calls = Call.run(run);
        if (calls.size() > MOST_CALLS) {
            throw new IllegalArgumentException("too long a run for: " + sentence);
        }
        for (int i = 0; i < calls.size(); i++) {
            Call call = calls.get(i);
            int got = call.make(x);
            if (call.hasDue && got != call.due) {
                wrong++;
                System.out.println(sentence + "\n  call " + (i + 1) + ", " + call.text + ", answered " + got
                    + ", due is " + call.due + "\n  in: " + run.trim());
            }
        }
    }

    void exitIfWrong() {
        if (wrong > 0) {
            System.out.println(wrong + " wrong answers");
            System.exit(1);
        }
    }
}
