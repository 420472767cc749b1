import java.util.Arrays;

/** The edges that promise 7 names, a test for each sentence. */
public final class RunEdgesTest {
    private static final int MIN = Integer.MIN_VALUE;
    private static final String ECHO = "RETURN:0,1 VAR:0 CASE:0,0,1 RESUME VAR:1 VAR:0 END";

    public static void main(String[] args) {
        Due.sentence("If status() == ST_EDITING, run() answers REFUSED and changes nothing.", RunEdgesTest::refused);
        Due.sentence("Otherwise (status ST_READY, ST_DONE or ST_TRAPPED) it empties the output, sets performCount, resumeCount and "
                + "result to 0, trapCode to TRAP_NONE and trapPos to -1, then evaluates the program from nothing (an empty stack and "
                + "no resumptions).", RunEdgesTest::startsFromNothing);
        Due.sentence("It answers the new status: ST_DONE, with result() = the program's value, or ST_TRAPPED at the first trap.",
                RunEdgesTest::answersTheStatus);
        Due.sentence("A trap stops evaluation at once; the output and the counts keep what was reached.", RunEdgesTest::stopsAtOnce);
        Due.sentence("run may be called again and gives the same answers and the same final state.", RunEdgesTest::sameAgain);
        Due.sentence("The tokens, errorCode and errorPos never change.", RunEdgesTest::keepsTheProgram);
        Due.sentence("Evaluation: subexpressions are evaluated left to right, each when reached.", RunEdgesTest::leftToRight);
        Due.sentence("When B gives v, pop the frame and evaluate R with x = v and w = the frame's parameter at that moment.",
                RunEdgesTest::parameterAtThatMoment);
        Due.sentence("If performCount() == maxPerforms: trap TRAP_LIMIT.", RunEdgesTest::limit);
        Due.sentence("Then find the innermost frame on the stack whose handler has a CASE for op; frames without one are passed over.",
                RunEdgesTest::passesOver);
        Due.sentence("If there is none: trap TRAP_UNHANDLED.", RunEdgesTest::unhandled);
        Due.sentence("Else let K be all of the stack above that frame (up to this PERFORM, with any frames in between), and q the "
                + "frame's parameter.", RunEdgesTest::capturesAll);
        Due.sentence("Then that CASE's C is evaluated in place of the HANDLE expression, with its argument variable = v and its "
                + "parameter variable = q.", RunEdgesTest::startsTheClause);
        Due.sentence("Its value is the HANDLE's value (R is not applied to it).", RunEdgesTest::clauseValue);
        Due.sentence("Each such start of a C is a new activation of that CASE, owning r.", RunEdgesTest::newActivation);
        Due.sentence("Every evaluation done within that C belongs to that activation, including pieces of it that are captured into a "
                + "resumption and pushed back later.", RunEdgesTest::capturedPieces);
        Due.sentence("If r is used: trap TRAP_RESUMED_TWICE.", RunEdgesTest::resumedTwice);
        Due.sentence("If r's mode is DEEP, push a frame for r's handler with parameter p2 and then K; if SHALLOW, push K only (p2 is "
                + "unused).", RunEdgesTest::deepAndShallow);
        Due.sentence("The value that later arrives where the pushed part began is the RESUME's value: with DEEP, the value of that "
                + "HANDLE with R applied; with SHALLOW, the value that would have reached the removed frame.", RunEdgesTest::resumeValue);
        Due.sentence("EMIT X: evaluate X to v. If outputCount() == MAX_OUTPUT: trap TRAP_OUTPUT. Else append v.", RunEdgesTest::output);
        Due.sentence("When the stack is empty, the last value is the program's value.", RunEdgesTest::lastValue);
        Due.sentence("A resumption that is never resumed is simply dropped.", RunEdgesTest::dropped);
        Due.sentence("The trap position is the token index of the PERFORM (for TRAP_LIMIT and TRAP_UNHANDLED), the RESUME (for "
                + "TRAP_RESUMED_TWICE) or the EMIT (for TRAP_OUTPUT) that trapped.", RunEdgesTest::trapPositions);
        Due.end();
    }

    private static void refused() {
        for (Trial trial : States.editing()) {
            trial.unchangedBy("run()", trial.x::run, EffectHandlers.REFUSED);
            trial.unchangedBy("run() again", trial.x::run, EffectHandlers.REFUSED);
        }
        Trial trial = new Trial("run between the tokens", 32, 16);
        for (String word : States.ONCE.split(" ")) {
            trial.unchangedBy("run()", trial.x::run, EffectHandlers.REFUSED).enter(word);
        }
        trial.compile(EffectHandlers.E_NONE, 0).done(9);
    }

    private static void startsFromNothing() {
        // Full output and all performs used: a second run has all of them anew, and none of the old ones.
        int[] fives = new int[16];
        Arrays.fill(fives, 5);
        States.manyEmitted().done(5).emitted(fives).done(5).emitted(fives);
        States.manyPerforms().done(3).counts(16, 16).done(3).counts(16, 16);
        for (Trial trial : States.trapped()) {
            int[] first = trial.readings();
            trial.same("run()", trial.x.run(), EffectHandlers.ST_TRAPPED);
            Due.holds("after a trap, from nothing again", Arrays.equals(first, trial.readings()));
        }
        // The pending sums of the trapped run, its frame and its used resumption are gone.
        Trial trial = Trial.ready("ADD NUM:100 HANDLE:0 NUM:7 ADD NUM:20 PERFORM:0 EMIT NUM:1 RETURN:0,1 VAR:0 CASE:0,0,1 "
                + "SEQ EMIT RESUME VAR:1 VAR:0 RESUME VAR:1 VAR:0 END");
        for (int i = 0; i < 100; i++) {
            trial.traps(EffectHandlers.TRAP_RESUMED_TWICE, 17).emitted(1, 21).counts(1, 1);
        }
    }

    private static void answersTheStatus() {
        for (int value : new int[] {MIN, -1, 0, 1, Integer.MAX_VALUE}) {
            Trial.ready("NUM:" + value).done(value);
        }
        // Two traps lie ahead: the first one reached counts, not the first one written.
        Trial.ready("ADD PERFORM:0 NUM:1 PERFORM:1 NUM:1").traps(EffectHandlers.TRAP_UNHANDLED, 1).counts(1, 0);
        Trial.ready("PERFORM:0 PERFORM:1 NUM:1").traps(EffectHandlers.TRAP_UNHANDLED, 1).counts(1, 0);
        Trial.ready("PERFORM:0 " + "EMIT ".repeat(17) + "NUM:1").traps(EffectHandlers.TRAP_OUTPUT, 1).counts(0, 0);
        Trial.ready("IF NUM:0 PERFORM:0 NUM:1 PERFORM:1 NUM:2").traps(EffectHandlers.TRAP_UNHANDLED, 4);
    }

    private static void stopsAtOnce() {
        // Behind each trap stand an EMIT and a PERFORM that must not be reached.
        String rest = " SEQ EMIT NUM:-9 PERFORM:7 NUM:0";
        Trial.ready("SEQ EMIT NUM:1 SEQ PERFORM:0 EMIT NUM:2" + rest).traps(EffectHandlers.TRAP_UNHANDLED, 4).emitted(1, 2).counts(1, 0);
        Trial.ready("SEQ HANDLE:0 NUM:0 PERFORM:0 PERFORM:0 NUM:1 RETURN:0,1 EMIT NUM:-8 CASE:0,0,1 RESUME EMIT NUM:4 VAR:0 END" + rest, 1)
                .traps(EffectHandlers.TRAP_LIMIT, 3).emitted(4).counts(1, 1);
        Trial.ready("SEQ HANDLE:1 NUM:0 PERFORM:0 NUM:1 RETURN:0,1 EMIT NUM:-8 CASE:0,0,1 EMIT ADD RESUME NUM:0 NUM:4 RESUME NUM:0 "
                + "EMIT NUM:5 END" + rest).traps(EffectHandlers.TRAP_RESUMED_TWICE, 14).emitted(5).counts(1, 1);
        Trial.ready("SEQ " + "EMIT ".repeat(17) + "NUM:6" + rest).traps(EffectHandlers.TRAP_OUTPUT, 1)
                .emitted(6, 6, 6, 6, 6, 6, 6, 6, 6, 6, 6, 6, 6, 6, 6, 6).counts(0, 0);
    }

    private static void sameAgain() {
        for (Trial trial : States.compiled()) {
            int status = trial.x.run();
            int[] first = trial.readings();
            for (int i = 0; i < 50; i++) {
                trial.same("run() again", trial.x.run(), status);
                Due.holds("the same final state", Arrays.equals(first, trial.readings()));
            }
        }
    }

    private static void keepsTheProgram() {
        for (Trial trial : States.compiled()) {
            int[] before = trial.readings();
            trial.x.run();
            int[] after = trial.readings();
            trial.holdsTokens(before[0]).error(0, 0);
            Due.holds("the kinds are kept", Arrays.equals(Arrays.copyOfRange(before, 10, 50), Arrays.copyOfRange(after, 10, 50)));
        }
    }

    private static void leftToRight() {
        for (String two : new String[] {"ADD", "SUB", "MUL", "LT", "EQ", "SEQ", "LET:0"}) {
            Trial trial = Trial.ready(two + " EMIT NUM:1 EMIT NUM:2");
            trial.same("run()", trial.x.run(), EffectHandlers.ST_DONE);
            trial.emitted(1, 2);
            // The second part is not reached if the first one traps.
            Trial.ready(two + " PERFORM:0 EMIT NUM:1 EMIT NUM:2").traps(EffectHandlers.TRAP_UNHANDLED, 1).emitted(1);
        }
        Trial.ready("HANDLE:0 EMIT NUM:1 PERFORM:0 EMIT NUM:2 RETURN:0,1 EMIT NUM:5 CASE:0,0,1 RESUME EMIT NUM:3 EMIT NUM:4 END")
                .done(5).emitted(1, 2, 3, 4, 5);
    }

    private static void parameterAtThatMoment() {
        for (int performs = 0; performs <= 16; performs++) {
            Trial.ready("HANDLE:0 NUM:50 " + "PERFORM:0 ".repeat(performs)
                    + "NUM:3 RETURN:0,1 ADD VAR:0 VAR:1 CASE:0,0,1 RESUME ADD VAR:1 NUM:10 VAR:0 END").done(53 + 10 * performs);
        }
        // The parameter that the frame holds when B is done, not the first one and not that of another frame.
        Trial.ready("HANDLE:0 NUM:1 HANDLE:0 NUM:2 PERFORM:1 NUM:3 RETURN:0,1 EMIT VAR:1 CASE:0,0,1 NUM:9 END RETURN:0,1 EMIT VAR:1 "
                + "CASE:1,0,1 RESUME NUM:8 VAR:0 END").done(8).emitted(2, 8);
        // The frame is gone in R, so R's own operation goes further out.
        Trial.ready("HANDLE:0 NUM:1 HANDLE:0 NUM:2 NUM:3 RETURN:0,1 PERFORM:0 VAR:0 CASE:0,0,1 NUM:-1 END RETURN:0,1 VAR:0 CASE:0,0,1 "
                + "ADD VAR:0 NUM:70 END").done(73).counts(1, 0);
    }

    private static void limit() {
        for (int limit = 1; limit <= 16; limit++) {
            String performs = "HANDLE:0 NUM:0 " + "PERFORM:0 ".repeat(limit);
            Trial.ready(performs + "NUM:3 " + ECHO, limit).done(3).counts(limit, limit);
            Trial.ready(performs + "PERFORM:0 NUM:3 " + ECHO, limit).traps(EffectHandlers.TRAP_LIMIT, 2).counts(limit, limit);
            // The limit comes before the search for a handler, and behind the argument.
            Trial.ready("PERFORM:7 EMIT " + performs + "NUM:3 " + ECHO, limit).traps(EffectHandlers.TRAP_LIMIT, 0).emitted(3)
                    .counts(limit, limit);
            if (limit < 16) {
                Trial.ready("PERFORM:7 EMIT " + performs + "NUM:3 " + ECHO, limit + 1).traps(EffectHandlers.TRAP_UNHANDLED, 0).emitted(3)
                        .counts(limit + 1, limit);
            }
        }
    }

    private static void passesOver() {
        // Between the PERFORM and its frame stand a frame without any CASE and one with another CASE.
        String between = "HANDLE:0 NUM:1 HANDLE:1 NUM:2 ";
        String ends = " RETURN:0,1 ADD NUM:10 VAR:0 END RETURN:0,1 ADD NUM:100 VAR:0 CASE:1,0,1 NUM:-1 END ";
        Trial.ready("HANDLE:0 NUM:0 " + between + "PERFORM:0 NUM:5" + ends + ECHO).done(115).counts(1, 1);
        // The innermost of two frames that have it.
        Trial.ready("HANDLE:0 NUM:1 HANDLE:0 NUM:2 PERFORM:0 NUM:5 RETURN:0,1 NUM:-1 CASE:0,0,1 VAR:1 END RETURN:0,1 ADD NUM:70 VAR:0 "
                + "CASE:0,0,1 NUM:-2 END").done(72).counts(1, 0);
    }

    private static void unhandled() {
        for (int operation = 0; operation <= 7; operation++) {
            String perform = "PERFORM:" + operation + " NUM:1 ";
            String other = " CASE:" + (operation + 1) % 8 + ",0,1 NUM:9 END";
            String own = " CASE:" + operation + ",0,1 NUM:9 END";
            // No frame at all; a frame without CASE; one with another CASE; the frame not there yet, gone, or removed.
            Trial.ready(perform).traps(EffectHandlers.TRAP_UNHANDLED, 0).counts(1, 0);
            Trial.ready("HANDLE:0 NUM:0 " + perform + "RETURN:0,1 NUM:2 END").traps(EffectHandlers.TRAP_UNHANDLED, 2).counts(1, 0);
            Trial.ready("HANDLE:0 NUM:0 " + perform + "RETURN:0,1 NUM:2" + other).traps(EffectHandlers.TRAP_UNHANDLED, 2).counts(1, 0);
            Trial.ready("HANDLE:0 " + perform + "NUM:0 RETURN:0,1 NUM:2" + own).traps(EffectHandlers.TRAP_UNHANDLED, 1).counts(1, 0);
            Trial.ready("HANDLE:0 NUM:0 NUM:2 RETURN:0,1 " + perform + own).traps(EffectHandlers.TRAP_UNHANDLED, 4).counts(1, 0);
            Trial.ready("HANDLE:0 NUM:0 " + perform + "RETURN:0,1 NUM:2" + own.replace("NUM:9", perform))
                    .traps(EffectHandlers.TRAP_UNHANDLED, 7).counts(2, 0);
            Trial.ready("ADD HANDLE:0 NUM:0 NUM:2 RETURN:0,1 NUM:2" + own + " " + perform).traps(EffectHandlers.TRAP_UNHANDLED, 9).counts(1, 0);
        }
    }

    private static void capturesAll() {
        // An empty K, K of pending expressions only, and K with frames whose parameters are kept.
        Trial.ready("HANDLE:0 NUM:4 PERFORM:0 NUM:1 RETURN:0,1 ADD NUM:1000 VAR:0 CASE:0,0,1 RESUME VAR:1 VAR:1 END").done(1004);
        Trial.ready("HANDLE:0 NUM:4 SUB NUM:10 MUL NUM:3 PERFORM:0 NUM:1 RETURN:0,1 VAR:0 CASE:0,0,1 RESUME VAR:1 VAR:1 END").done(-2);
        Trial.ready("HANDLE:0 NUM:4 HANDLE:0 NUM:50 ADD NUM:1 PERFORM:0 NUM:1 RETURN:0,1 ADD VAR:0 VAR:1 END RETURN:0,1 VAR:0 "
                + "CASE:0,0,1 RESUME VAR:1 VAR:1 END").done(55);
        // A frame in K handles again once it is pushed back, also under a SHALLOW frame that is not.
        Trial.ready("HANDLE:1 NUM:4 HANDLE:0 NUM:50 ADD PERFORM:0 NUM:1 PERFORM:1 NUM:2 RETURN:0,1 VAR:0 CASE:1,0,1 RESUME NUM:0 VAR:1 END "
                + "RETURN:0,1 NUM:-1 CASE:0,0,1 RESUME NUM:0 VAR:1 END").done(54).counts(2, 2);
        // Nothing below the frame is captured: the sum around the HANDLE is done once.
        Trial.ready("ADD NUM:1000 HANDLE:0 NUM:4 PERFORM:0 NUM:1 RETURN:0,1 VAR:0 CASE:0,0,1 ADD VAR:0 RESUME VAR:1 VAR:1 END").done(1005);
    }

    private static void startsTheClause() {
        // Where the HANDLE stands: with the variables bound there, not those around the PERFORM, and without its frame.
        Trial.ready("LET:4 NUM:1 HANDLE:0 NUM:0 LET:4 NUM:2 PERFORM:0 NUM:3 RETURN:0,1 VAR:0 CASE:0,0,1 VAR:4 END").done(1);
        Trial.ready("LET:4 NUM:1 HANDLE:0 NUM:0 HANDLE:0 NUM:0 LET:4 NUM:2 PERFORM:0 NUM:3 RETURN:4,5 VAR:4 END RETURN:0,1 VAR:0 "
                + "CASE:0,0,1 VAR:4 END").done(1);
        Trial.ready("HANDLE:0 NUM:0 PERFORM:0 NUM:1 RETURN:0,1 VAR:0 CASE:0,0,1 PERFORM:0 NUM:2 END")
                .traps(EffectHandlers.TRAP_UNHANDLED, 7).counts(2, 0);
        // v and q at their edges, and q of the frame that was found, not of one passed over.
        for (int edge : new int[] {MIN, -1, 0, 1, Integer.MAX_VALUE}) {
            Trial.ready("HANDLE:0 NUM:" + edge + " PERFORM:0 NUM:5 RETURN:0,1 NUM:-1 CASE:0,0,1 VAR:1 END").done(edge);
            Trial.ready("HANDLE:0 NUM:5 PERFORM:0 NUM:" + edge + " RETURN:0,1 NUM:-1 CASE:0,0,1 VAR:0 END").done(edge);
            Trial.ready("HANDLE:0 NUM:" + edge + " HANDLE:0 NUM:7 PERFORM:0 NUM:5 RETURN:0,1 NUM:-1 END RETURN:0,1 NUM:-1 "
                    + "CASE:0,0,1 VAR:1 END").done(edge);
        }
    }

    private static void clauseValue() {
        for (String mode : new String[] {"HANDLE:0", "HANDLE:1"}) {
            Trial.ready("ADD NUM:100 " + mode + " NUM:4 EMIT PERFORM:0 NUM:1 RETURN:0,1 EMIT NUM:-1 CASE:0,0,1 SUB VAR:1 VAR:0 END")
                    .done(103).emitted().counts(1, 0);
        }
    }

    private static void newActivation() {
        // One CASE, sixteen activations, each of which resumes its own; then fifteen, of which the last one resumes again.
        Trial.ready("HANDLE:0 NUM:0 " + "PERFORM:0 ".repeat(16) + "NUM:3 RETURN:0,1 VAR:0 CASE:0,0,1 ADD NUM:1 RESUME NUM:0 VAR:0 END")
                .done(19).counts(16, 16);
        Trial.ready("HANDLE:0 NUM:0 " + "PERFORM:0 ".repeat(15)
                + "NUM:3 RETURN:0,1 VAR:0 CASE:0,0,1 ADD EMIT RESUME NUM:0 VAR:0 RESUME NUM:0 VAR:0 END")
                .traps(EffectHandlers.TRAP_RESUMED_TWICE, 26).emitted(3).counts(15, 15);
    }

    private static void capturedPieces() {
        // A clause of 0 performs 1 before it resumes: the RESUME is pushed back with it and still gives 0's PERFORM its value.
        Trial.ready("HANDLE:0 NUM:0 HANDLE:0 NUM:0 ADD NUM:30 PERFORM:0 NUM:1 RETURN:0,1 VAR:0 CASE:0,0,1 RESUME NUM:0 PERFORM:1 VAR:0 END "
                + "RETURN:0,1 VAR:0 CASE:1,0,1 ADD NUM:100 RESUME NUM:0 ADD VAR:0 NUM:5 END").done(136).counts(2, 2);
        // The piece comes back after its own resumption was used: used it stays.
        Trial.ready("HANDLE:0 NUM:0 HANDLE:0 NUM:0 PERFORM:0 NUM:1 RETURN:0,1 VAR:0 CASE:0,0,1 SEQ RESUME NUM:0 VAR:0 SEQ PERFORM:1 NUM:2 "
                + "RESUME NUM:0 NUM:3 END RETURN:0,1 VAR:0 CASE:1,0,1 RESUME NUM:0 VAR:0 END")
                .traps(EffectHandlers.TRAP_RESUMED_TWICE, 16).counts(2, 2);
        // The body of a HANDLE within the clause is such a piece too: its RESUME is that of the clause around it.
        Trial.ready("HANDLE:0 NUM:0 ADD NUM:30 PERFORM:0 NUM:1 RETURN:0,1 VAR:0 CASE:0,0,1 HANDLE:0 NUM:0 RESUME NUM:0 PERFORM:1 VAR:0 "
                + "RETURN:2,3 VAR:2 CASE:1,2,3 ADD NUM:100 RESUME NUM:0 ADD VAR:2 NUM:5 END END").done(136).counts(2, 2);
    }

    private static void resumedTwice() {
        String start = "HANDLE:0 NUM:0 PERFORM:0 NUM:1 RETURN:0,1 VAR:0 CASE:0,0,1 ";
        Trial.ready(start + "ADD RESUME NUM:0 NUM:1 RESUME NUM:0 NUM:2 END").traps(EffectHandlers.TRAP_RESUMED_TWICE, 11).counts(1, 1);
        // Both parts are evaluated before the test, and either of them may be what used r.
        Trial.ready(start + "ADD RESUME NUM:0 NUM:1 RESUME EMIT NUM:2 EMIT NUM:3 END").traps(EffectHandlers.TRAP_RESUMED_TWICE, 11)
                .emitted(2, 3);
        Trial.ready(start + "RESUME RESUME NUM:0 NUM:1 NUM:2 END").traps(EffectHandlers.TRAP_RESUMED_TWICE, 7).counts(1, 1);
        Trial.ready(start + "RESUME NUM:0 RESUME NUM:0 NUM:1 END").traps(EffectHandlers.TRAP_RESUMED_TWICE, 7).counts(1, 1);
        // The branch that is not chosen does not use it.
        Trial.ready(start + "IF NUM:0 RESUME NUM:0 NUM:1 RESUME NUM:0 NUM:2 END").done(2).counts(1, 1);
    }

    private static void deepAndShallow() {
        String rest = " NUM:5 ADD PERFORM:0 NUM:1 PERFORM:0 NUM:2 RETURN:0,1 ADD VAR:0 VAR:1 CASE:0,0,1 RESUME EMIT NUM:20 VAR:1 END";
        Trial.ready("HANDLE:0" + rest).done(5 + 20 + 20).emitted(20, 20).counts(2, 2);
        // Not reinstalled: the second operation finds no frame, though p2 was evaluated.
        Trial.ready("HANDLE:1" + rest).traps(EffectHandlers.TRAP_UNHANDLED, 5).emitted(20).counts(2, 1);
        // p2 is unused: whatever it is, the outer handler and its parameter stay.
        for (int p2 : new int[] {MIN, 0, Integer.MAX_VALUE}) {
            Trial.ready("HANDLE:0 NUM:3 HANDLE:1 NUM:5 ADD PERFORM:0 NUM:1 PERFORM:0 NUM:2 RETURN:0,1 NUM:-1 CASE:0,0,1 RESUME NUM:" + p2
                    + " VAR:1 END RETURN:0,1 ADD VAR:0 VAR:1 CASE:0,0,1 RESUME NUM:40 VAR:1 END").done(5 + 3 + 40).counts(2, 2);
        }
    }

    private static void resumeValue() {
        String rest = " NUM:5 ADD NUM:7 PERFORM:0 NUM:1 RETURN:0,1 MUL VAR:0 VAR:1 CASE:0,0,1 ADD NUM:1000 EMIT RESUME NUM:3 VAR:0 END";
        Trial.ready("HANDLE:0" + rest).done(1024).emitted(24);
        Trial.ready("HANDLE:1" + rest).done(1008).emitted(8);
        // With an empty K the value arrives at once.
        String empty = " NUM:5 PERFORM:0 NUM:1 RETURN:0,1 MUL VAR:0 VAR:1 CASE:0,0,1 EMIT RESUME NUM:3 NUM:6 END";
        Trial.ready("HANDLE:0" + empty).done(18).emitted(18);
        Trial.ready("HANDLE:1" + empty).done(6).emitted(6);
    }

    private static void output() {
        for (int emits = 0; emits <= 18; emits++) {
            Trial trial = Trial.ready("EMIT ".repeat(emits) + "NUM:-6");
            int[] due = new int[Math.min(emits, EffectHandlers.MAX_OUTPUT)];
            Arrays.fill(due, -6);
            if (emits <= EffectHandlers.MAX_OUTPUT) {
                trial.done(-6).emitted(due);
            } else {
                trial.traps(EffectHandlers.TRAP_OUTPUT, emits - 17).emitted(due);
            }
        }
        // X is evaluated first: it may perform, and its trap is the one that counts.
        Trial.ready("SEQ " + "EMIT ".repeat(16) + "NUM:1 EMIT PERFORM:0 NUM:2").traps(EffectHandlers.TRAP_UNHANDLED, 19).counts(1, 0);
        Trial.ready("SEQ " + "EMIT ".repeat(16) + "NUM:1 EMIT HANDLE:0 NUM:0 PERFORM:0 NUM:2 " + ECHO)
                .traps(EffectHandlers.TRAP_OUTPUT, 18).counts(1, 1);
    }

    private static void lastValue() {
        Trial.ready("NUM:8").done(8);
        Trial.ready("SEQ NUM:8 NUM:9").done(9);
        Trial.ready("HANDLE:0 NUM:1 NUM:2 RETURN:0,1 NUM:3 END").done(3);
        Trial.ready("HANDLE:0 NUM:1 PERFORM:0 NUM:2 RETURN:0,1 NUM:3 CASE:0,0,1 NUM:4 END").done(4);
        Trial.ready("HANDLE:1 NUM:1 PERFORM:0 NUM:2 RETURN:0,1 NUM:3 CASE:0,0,1 RESUME NUM:5 NUM:6 END").done(6);
        Trial.ready("EMIT ".repeat(16) + "ADD ".repeat(7) + "NUM:1 ".repeat(8)).done(8);
    }

    private static void dropped() {
        // Two of them, the one captured under the other, and what they hold is never evaluated.
        Trial.ready("HANDLE:0 NUM:0 HANDLE:0 NUM:0 EMIT PERFORM:0 NUM:1 RETURN:0,1 EMIT NUM:2 CASE:0,0,1 EMIT PERFORM:1 NUM:3 END "
                + "RETURN:0,1 EMIT NUM:4 CASE:1,0,1 ADD NUM:50 VAR:0 END").done(53).emitted().counts(2, 0);
    }

    private static void trapPositions() {
        // At the first token and at the last place that each can have.
        Trial.ready("PERFORM:0 NUM:1").traps(EffectHandlers.TRAP_UNHANDLED, 0);
        Trial.ready("ADD NUM:1 ".repeat(15) + "PERFORM:0 NUM:1").traps(EffectHandlers.TRAP_UNHANDLED, 30);
        Trial.ready("PERFORM:1 HANDLE:0 NUM:0 PERFORM:0 NUM:1 " + ECHO, 1).traps(EffectHandlers.TRAP_LIMIT, 0);
        Trial.ready("SEQ HANDLE:0 NUM:0 PERFORM:0 NUM:1 " + ECHO + " " + "ADD NUM:1 ".repeat(9) + "PERFORM:0 NUM:1", 1)
                .traps(EffectHandlers.TRAP_LIMIT, 30);
        Trial.ready("EMIT ".repeat(17) + "NUM:1").traps(EffectHandlers.TRAP_OUTPUT, 0);
        Trial.ready("SEQ " + "EMIT ".repeat(16) + "NUM:1 " + "ADD NUM:1 ".repeat(6) + "EMIT NUM:1").traps(EffectHandlers.TRAP_OUTPUT, 30);
        String twice = "HANDLE:0 NUM:0 PERFORM:0 NUM:1 RETURN:0,1 VAR:0 CASE:0,0,1 ";
        Trial.ready(twice + "RESUME NUM:0 RESUME NUM:0 NUM:1 END").traps(EffectHandlers.TRAP_RESUMED_TWICE, 7);
        Trial.ready(twice + "SEQ RESUME NUM:0 NUM:1 " + "ADD NUM:1 ".repeat(8) + "EMIT RESUME NUM:0 NUM:1 END")
                .traps(EffectHandlers.TRAP_RESUMED_TWICE, 28);
    }
}
