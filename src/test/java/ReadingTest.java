/** Promises 8, 9 and 10: what the reading methods answer in each state, and that they change nothing. */
public final class ReadingTest {
    private static final String ENDS = "HANDLE:0 NUM:3 EMIT PERFORM:0 NUM:-4 RETURN:0,1 VAR:0 CASE:0,0,1 RESUME VAR:1 VAR:0 END";
    private static final String TRAPS = "HANDLE:1 NUM:3 SEQ PERFORM:0 EMIT NUM:8 PERFORM:0 NUM:9 RETURN:0,1 VAR:0 CASE:0,0,1 RESUME VAR:1 VAR:0 END";

    public static void main(String[] args) {
        Trial trial = new Trial("every state", 32, 16);
        readsLike(trial, EffectHandlers.ST_EDITING);
        trial.enter("ADD").compile(EffectHandlers.E_INCOMPLETE, 1);
        readsLike(trial, EffectHandlers.ST_EDITING);
        trial.x.reset();
        trial.enter(ENDS).compile(EffectHandlers.E_NONE, 0);
        readsLike(trial, EffectHandlers.ST_READY);
        for (int i = 0; i < 3; i++) {
            trial.done(-4);
            for (int j = 0; j < 3; j++) {
                trial.ended(EffectHandlers.ST_DONE, -4, EffectHandlers.TRAP_NONE, -1).emitted(-4).counts(1, 1);
            }
        }
        trial.x.reset();
        trial.enter(TRAPS).compile(EffectHandlers.E_NONE, 0);
        readsLike(trial, EffectHandlers.ST_READY);
        for (int i = 0; i < 3; i++) {
            trial.traps(EffectHandlers.TRAP_UNHANDLED, 6);
            for (int j = 0; j < 3; j++) {
                trial.ended(EffectHandlers.ST_TRAPPED, 0, EffectHandlers.TRAP_UNHANDLED, 6).emitted(8).counts(2, 1);
            }
        }
        trial.x.reset();
        trial.fresh();
        outputInOrder();
        countsOnlyWhatPassed();
        Due.end();
    }

    private static void readsLike(Trial trial, int status) {
        trial.notRun(status).notRun(status);
    }

    private static void outputInOrder() {
        StringBuilder program = new StringBuilder();
        for (int i = 0; i < 10; i++) {
            program.append("SEQ EMIT NUM:").append(i * i - 20).append(' ');
        }
        Trial trial = Trial.ready(program + "NUM:77").done(77);
        trial.emitted(-20, -19, -16, -11, -4, 5, 16, 29, 44, 61);
        for (int i = 10; i < 40; i++) {
            trial.same("output " + i, trial.x.output(i), 0);
        }
        // Sixteen values and the trap of the seventeenth; none is lost.
        Trial full = Trial.ready("LET:0 NUM:1 SEQ " + "EMIT ".repeat(9) + "VAR:0 ADD NUM:1 " + "EMIT ".repeat(8) + "NUM:2");
        full.traps(EffectHandlers.TRAP_OUTPUT, 15).emitted(1, 1, 1, 1, 1, 1, 1, 1, 1, 2, 2, 2, 2, 2, 2, 2);
    }

    private static void countsOnlyWhatPassed() {
        // Counted though unhandled; not counted when the limit stops it or the resumption is used.
        Trial.ready("PERFORM:0 NUM:1").traps(EffectHandlers.TRAP_UNHANDLED, 0).counts(1, 0);
        String chain = "HANDLE:0 NUM:0 PERFORM:0 PERFORM:0 NUM:1 RETURN:0,1 VAR:0 CASE:0,0,1 RESUME NUM:0 VAR:0 END";
        Trial.ready(chain, 1).traps(EffectHandlers.TRAP_LIMIT, 2).counts(1, 1);
        Trial.ready(chain, 2).done(1).counts(2, 2);
        Trial.ready("HANDLE:1 NUM:0 PERFORM:0 NUM:1 RETURN:0,1 VAR:0 CASE:0,0,1 SEQ RESUME NUM:0 NUM:1 RESUME NUM:0 NUM:1 END")
                .traps(EffectHandlers.TRAP_RESUMED_TWICE, 11).counts(1, 1);
        Trial.ready("HANDLE:1 NUM:0 PERFORM:0 NUM:1 RETURN:0,1 VAR:0 CASE:0,0,1 VAR:0 END").done(1).counts(1, 0);
    }
}
