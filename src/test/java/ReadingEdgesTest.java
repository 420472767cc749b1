import java.util.List;

/** The edges that promises 8, 9 and 10 name, a test for each sentence. */
public final class ReadingEdgesTest {
    private static final int MIN = Integer.MIN_VALUE;
    private static final int MAX = Integer.MAX_VALUE;
    private static final String ECHO = "RETURN:0,1 VAR:0 CASE:0,0,1 RESUME VAR:1 VAR:0 END";

    public static void main(String[] args) {
        Due.sentence("status() is one of ST_EDITING, ST_READY, ST_DONE, ST_TRAPPED.", ReadingEdgesTest::fourStates);
        Due.sentence("result() is the program's value if status() == ST_DONE; otherwise 0.", ReadingEdgesTest::resultOnlyWhenDone);
        Due.sentence("trapCode() is the trap code if status() == ST_TRAPPED; otherwise TRAP_NONE.", ReadingEdgesTest::codeOnlyWhenTrapped);
        Due.sentence("trapPos() is the token index of the PERFORM, RESUME or EMIT that trapped; -1 if none.",
                ReadingEdgesTest::positionOnlyWhenTrapped);
        Due.sentence("None of them changes anything.", ReadingEdgesTest::stateReadsChangeNothing);
        Due.sentence("outputCount() is the number of values emitted by the last run (0..16); 0 after reset and before any run.",
                ReadingEdgesTest::countsOutput);
        Due.sentence("output(i) is the i-th emitted value, in emission order, for 0 <= i < outputCount(); for any other i it is 0.",
                ReadingEdgesTest::readsOutput);
        Due.sentence("Neither changes anything. (promise 9)", ReadingEdgesTest::outputReadsChangeNothing);
        Due.sentence("performCount() is the number of performs that passed the limit test in the last run (counted even when then "
                + "unhandled); it never exceeds maxPerforms.", ReadingEdgesTest::countsPerforms);
        Due.sentence("resumeCount() is the number of resumes that succeeded in the last run.", ReadingEdgesTest::countsResumes);
        Due.sentence("Both are 0 before any run and after reset.", ReadingEdgesTest::countsStartAtZero);
        Due.sentence("Neither changes anything. (promise 10)", ReadingEdgesTest::countReadsChangeNothing);
        Due.end();
    }

    private static void fourStates() {
        Trial trial = new Trial("states", 32, 16).status(0).enter("ADD").status(0);
        trial.compile(EffectHandlers.E_INCOMPLETE, 1).status(0).enter("NUM:1 NUM:2").status(0);
        trial.same("run()", trial.x.run(), EffectHandlers.REFUSED).status(0);
        trial.compile(EffectHandlers.E_NONE, 0).status(1).done(3).status(2).done(3).status(2).reset().status(0);
        trial.enter("PERFORM:0 NUM:1").compile(EffectHandlers.E_NONE, 0).status(1).traps(EffectHandlers.TRAP_UNHANDLED, 0).status(3);
        trial.reset().status(0);
        States.editing().forEach(one -> one.status(EffectHandlers.ST_EDITING));
    }

    private static void resultOnlyWhenDone() {
        for (int value : new int[] {MIN, -1, 0, 1, MAX}) {
            Trial trial = new Trial("result " + value, 32, 16).enter("NUM:" + value);
            trial.same("editing", trial.x.result(), 0).compile(EffectHandlers.E_NONE, 0).same("ready", trial.x.result(), 0);
            trial.done(value).done(value).reset().same("after reset", trial.x.result(), 0);
        }
        // A value was there when it trapped, and one before the reset.
        Trial trapped = Trial.ready("NUM:66").done(66).reset().enter("ADD NUM:5 PERFORM:0 NUM:7").compile(EffectHandlers.E_NONE, 0);
        trapped.same("ready after reset", trapped.x.result(), 0);
        trapped.traps(EffectHandlers.TRAP_UNHANDLED, 2).same("trapped", trapped.x.result(), 0);
        for (Trial trial : States.trapped()) {
            trial.same("trapped", trial.x.result(), 0);
        }
    }

    private static void codeOnlyWhenTrapped() {
        List<Trial> trials = States.trapped();
        for (int code = 1; code <= 4; code++) {
            Trial trial = trials.get(code - 1);
            trial.same("trapCode()", trial.x.trapCode(), code).reset().same("after reset", trial.x.trapCode(), 0);
            trial.enter("NUM:1").same("editing", trial.x.trapCode(), 0).compile(EffectHandlers.E_NONE, 0);
            trial.same("ready", trial.x.trapCode(), 0).done(1).same("done", trial.x.trapCode(), 0);
        }
        States.editing().forEach(trial -> trial.same("editing", trial.x.trapCode(), EffectHandlers.TRAP_NONE));
    }

    private static void positionOnlyWhenTrapped() {
        int[] positions = {3, 12, 2, 0};
        List<Trial> trials = States.trapped();
        for (int i = 0; i < positions.length; i++) {
            Trial trial = trials.get(i);
            trial.same("trapPos()", trial.x.trapPos(), positions[i]).reset().same("after reset", trial.x.trapPos(), -1);
            trial.enter("NUM:1").same("editing", trial.x.trapPos(), -1).compile(EffectHandlers.E_NONE, 0);
            trial.same("ready", trial.x.trapPos(), -1).done(1).same("done", trial.x.trapPos(), -1);
        }
        States.editing().forEach(trial -> trial.same("editing", trial.x.trapPos(), -1));
    }

    private static void stateReadsChangeNothing() {
        for (Trial trial : States.all()) {
            trial.unchangedBy("status()", trial.x::status, trial.x.status());
            trial.unchangedBy("result()", trial.x::result, trial.x.result());
            trial.unchangedBy("trapCode()", trial.x::trapCode, trial.x.trapCode());
            trial.unchangedBy("trapPos()", trial.x::trapPos, trial.x.trapPos());
        }
    }

    private static void countsOutput() {
        Trial trial = new Trial("output count", 32, 16);
        for (int emits = 0; emits <= 18; emits++) {
            trial.same("editing", trial.x.outputCount(), 0).enter("EMIT ".repeat(emits) + "NUM:1").compile(EffectHandlers.E_NONE, 0);
            trial.same("before any run", trial.x.outputCount(), 0);
            for (int i = 0; i < 3; i++) {
                trial.x.run();
                trial.same("of the last run alone", trial.x.outputCount(), Math.min(emits, 16));
            }
            trial.reset().same("after reset", trial.x.outputCount(), 0);
        }
    }

    private static void readsOutput() {
        // Ten values, no two of them equal.
        StringBuilder sums = new StringBuilder();
        for (int i = 0; i < 10; i++) {
            sums.append("EMIT ADD NUM:1 ");
        }
        Trial trial = Trial.ready(sums + "NUM:1").done(11).emitted(2, 3, 4, 5, 6, 7, 8, 9, 10, 11);
        for (int i : new int[] {MIN, MIN + 1, -16, -1, 10, 11, 15, 16, 17, 256, 65536, MAX}) {
            trial.same("output(" + i + ")", trial.x.output(i), 0);
        }
        // All sixteen places, the first and the last one different from the rest.
        Trial full = Trial.ready("SEQ EMIT NUM:-1 SEQ " + "EMIT ".repeat(14) + "NUM:5 EMIT NUM:" + MIN).done(MIN);
        full.emitted(-1, 5, 5, 5, 5, 5, 5, 5, 5, 5, 5, 5, 5, 5, 5, MIN);
        for (int i : new int[] {MIN, -1, 16, 17, MAX}) {
            full.same("output(" + i + ")", full.x.output(i), 0);
        }
        // The longer output of an earlier program is not seen behind a shorter one.
        full.reset().emitted().enter("EMIT NUM:4").emitted().compile(EffectHandlers.E_NONE, 0).emitted().done(4).emitted(4);
        for (int i = 1; i < 20; i++) {
            full.same("output(" + i + ")", full.x.output(i), 0);
        }
    }

    private static void outputReadsChangeNothing() {
        for (Trial trial : States.all()) {
            trial.unchangedBy("outputCount()", trial.x::outputCount, trial.x.outputCount());
            for (int i : new int[] {MIN, -1, 16, MAX}) {
                trial.unchangedBy("output(" + i + ")", () -> trial.x.output(i), 0);
            }
            trial.unchangedBy("output(0)", () -> trial.x.output(0), trial.x.output(0));
        }
    }

    private static void countsPerforms() {
        Trial.ready("NUM:1").done(1).counts(0, 0);
        Trial.ready("PERFORM:0 NUM:1").traps(EffectHandlers.TRAP_UNHANDLED, 0).counts(1, 0);
        for (int limit = 1; limit <= 16; limit++) {
            for (int performs = 0; performs <= 18; performs++) {
                Trial trial = Trial.ready("HANDLE:0 NUM:0 " + "PERFORM:0 ".repeat(performs) + "NUM:1 " + ECHO, limit);
                trial.x.run();
                int passed = Math.min(performs, limit);
                trial.counts(passed, passed);
                trial.x.run();
                trial.counts(passed, passed);
            }
        }
        // The one at the limit is counted though nobody handles it; the one behind it would not be.
        Trial.ready("PERFORM:7 HANDLE:0 NUM:0 PERFORM:0 NUM:1 " + ECHO, 2).traps(EffectHandlers.TRAP_UNHANDLED, 0).counts(2, 1);
        Trial.ready("PERFORM:7 HANDLE:0 NUM:0 PERFORM:0 NUM:1 " + ECHO, 1).traps(EffectHandlers.TRAP_LIMIT, 0).counts(1, 1);
    }

    private static void countsResumes() {
        String start = "HANDLE:1 NUM:0 PERFORM:0 NUM:1 RETURN:0,1 VAR:0 CASE:0,0,1 ";
        Trial.ready(start + "VAR:0 END").done(1).counts(1, 0);
        Trial.ready(start + "RESUME NUM:0 VAR:0 END").done(1).counts(1, 1);
        Trial.ready(start + "RESUME NUM:0 RESUME NUM:0 VAR:0 END").traps(EffectHandlers.TRAP_RESUMED_TWICE, 7).counts(1, 1);
        // A RESUME whose parts trap has not succeeded.
        Trial.ready(start + "RESUME PERFORM:1 NUM:0 VAR:0 END").traps(EffectHandlers.TRAP_UNHANDLED, 8).counts(2, 0);
        Trial.ready(start + "RESUME NUM:0 PERFORM:1 VAR:0 END").traps(EffectHandlers.TRAP_UNHANDLED, 9).counts(2, 0);
        States.manyPerforms().done(3).counts(16, 16);
    }

    private static void countsStartAtZero() {
        States.editing().forEach(trial -> trial.counts(0, 0));
        for (Trial trial : States.compiled()) {
            trial.x.run();
            trial.reset().counts(0, 0).enter(States.ONCE).counts(0, 0).compile(EffectHandlers.E_NONE, 0).counts(0, 0);
            trial.same("status after run", trial.x.run(), EffectHandlers.ST_DONE).counts(1, 1).reset().counts(0, 0);
        }
    }

    private static void countReadsChangeNothing() {
        for (Trial trial : States.all()) {
            trial.unchangedBy("performCount()", trial.x::performCount, trial.x.performCount());
            trial.unchangedBy("resumeCount()", trial.x::resumeCount, trial.x.resumeCount());
        }
    }
}
