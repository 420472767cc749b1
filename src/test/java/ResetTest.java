/** Promise 2: reset works in every state, clears all but the limits, and alone leads back to editing. */
public final class ResetTest {
    private static final String TRAPS = "SEQ EMIT NUM:4 PERFORM:3 NUM:1";
    private static final String ENDS = "HANDLE:0 NUM:9 EMIT PERFORM:0 NUM:1 RETURN:0,1 VAR:0 CASE:0,0,1 RESUME VAR:1 VAR:1 END";

    public static void main(String[] args) {
        inEveryState();
        keepsTheLimits();
        forgetsTheOldProgram();
        forgetsTheOldStack();
        forgetsTheOldScan();
        isTheOnlyWayBack();
        Due.end();
    }

    private static void inEveryState() {
        resets(new Trial("new", 32, 16));
        resets(new Trial("with tokens", 32, 16).enter("ADD NUM:1"));
        resets(new Trial("with an error", 32, 16).enter("ADD NUM:1").compile(EffectHandlers.E_INCOMPLETE, 2));
        resets(Trial.ready("NUM:7"));
        resets(Trial.ready(ENDS).done(9).emitted(9).counts(1, 1));
        resets(Trial.ready(TRAPS).traps(EffectHandlers.TRAP_UNHANDLED, 3).emitted(4).counts(1, 0));
    }

    private static void resets(Trial trial) {
        trial.x.reset();
        trial.fresh();
        trial.x.reset();
        trial.fresh();
        trial.same("run() after reset", trial.x.run(), EffectHandlers.REFUSED);
        trial.enter(ENDS).compile(EffectHandlers.E_NONE, 0).notRun(EffectHandlers.ST_READY);
        trial.done(9).emitted(9).counts(1, 1);
    }

    private static void keepsTheLimits() {
        Trial trial = new Trial("limits 9 and 2", 9, 2);
        trial.x.reset();
        trial.enter("NUM:1 NUM:1 NUM:1 NUM:1 NUM:1 NUM:1 NUM:1 NUM:1 NUM:1");
        trial.same("token when full", trial.x.token(EffectHandlers.NUM, 1, 0, 0), EffectHandlers.FULL);
        Trial performs = Trial.ready("NUM:0", 2);
        performs.x.reset();
        performs.enter("HANDLE:0 NUM:0 PERFORM:0 PERFORM:0 PERFORM:0 NUM:1 RETURN:0,1 VAR:0 CASE:0,0,1 RESUME VAR:1 VAR:0 END");
        performs.compile(EffectHandlers.E_NONE, 0).traps(EffectHandlers.TRAP_LIMIT, 2).counts(2, 2);
    }

    private static void forgetsTheOldProgram() {
        Trial trial = Trial.ready(ENDS).done(9);
        trial.x.reset();
        trial.compile(EffectHandlers.E_INCOMPLETE, 0);
        // The same shape as before up to the CASE, which now stands for another operation.
        trial.enter("HANDLE:0 NUM:9 EMIT PERFORM:0 NUM:1 RETURN:0,1 VAR:0 CASE:1,0,1 RESUME VAR:1 VAR:1 END");
        trial.compile(EffectHandlers.E_NONE, 0).traps(EffectHandlers.TRAP_UNHANDLED, 3).emitted().counts(1, 0);
    }

    private static void forgetsTheOldStack() {
        // The trap leaves an ADD and a frame for operation 2 pending, which the next program must not meet.
        Trial trial = Trial.ready("ADD NUM:100 HANDLE:0 NUM:1 ADD NUM:200 PERFORM:3 NUM:1 RETURN:0,1 VAR:0 CASE:2,0,1 NUM:9 END");
        trial.traps(EffectHandlers.TRAP_UNHANDLED, 6);
        trial.x.reset();
        trial.enter("NUM:5").compile(EffectHandlers.E_NONE, 0).done(5);
        trial.x.reset();
        trial.enter("PERFORM:2 NUM:5").compile(EffectHandlers.E_NONE, 0).traps(EffectHandlers.TRAP_UNHANDLED, 0);
    }

    private static void forgetsTheOldScan() {
        // The scan breaks off inside a binder and inside a clause; neither reaches into the next program.
        Trial trial = new Trial("old scan", 32, 16).enter("EMIT LET:0 NUM:1 EMIT").compile(EffectHandlers.E_INCOMPLETE, 4);
        trial.x.reset();
        trial.enter("VAR:0").compile(EffectHandlers.E_UNBOUND, 0);
        trial.x.reset();
        trial.enter("EMIT VAR:0").compile(EffectHandlers.E_UNBOUND, 1);
        trial.x.reset();
        trial.enter("HANDLE:0 NUM:1 NUM:2 RETURN:0,1 VAR:0 CASE:4,0,1").compile(EffectHandlers.E_INCOMPLETE, 6);
        trial.x.reset();
        trial.enter("RESUME").compile(EffectHandlers.E_RESUME_OUTSIDE, 0);
        trial.x.reset();
        trial.enter("HANDLE:0 NUM:1 NUM:2 RETURN:0,1 VAR:0 CASE:4,0,1 VAR:0 END").compile(EffectHandlers.E_NONE, 0).done(2);
    }

    private static void isTheOnlyWayBack() {
        Trial[] trials = {Trial.ready("NUM:1"), Trial.ready("NUM:1").done(1), Trial.ready(TRAPS)};
        trials[2].x.run();
        for (Trial trial : trials) {
            int before = trial.x.status();
            trial.same("token", trial.x.token(EffectHandlers.NUM, 1, 0, 0), EffectHandlers.REFUSED);
            trial.same("compile", trial.x.compile(), EffectHandlers.REFUSED);
            trial.status(before);
            trial.x.run();
            trial.same("editing after run", trial.x.status() == EffectHandlers.ST_EDITING ? 1 : 0, 0);
        }
    }
}
