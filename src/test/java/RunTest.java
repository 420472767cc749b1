/** Promise 7: how each kind of expression is evaluated, and what each trap keeps. */
public final class RunTest {
    public static void main(String[] args) {
        isRefusedWhileEditing();
        computes();
        evaluatesInOrder();
        bindsVariables();
        handlesWithoutPerform();
        handlesPerforms();
        passesFramesOver();
        resumesDeepAndShallow();
        keepsActivationsApart();
        boundNamesInClauses();
        traps();
        reachesTheLimits();
        runsAgain();
        Due.end();
    }

    private static void isRefusedWhileEditing() {
        Trial trial = new Trial("editing", 32, 16);
        trial.same("run()", trial.x.run(), EffectHandlers.REFUSED);
        trial.fresh();
        trial.enter("NUM:1");
        trial.same("run()", trial.x.run(), EffectHandlers.REFUSED);
        trial.notRun(EffectHandlers.ST_EDITING).enter("NUM:2").compile(EffectHandlers.E_TRAILING, 1);
        trial.same("run()", trial.x.run(), EffectHandlers.REFUSED);
        trial.notRun(EffectHandlers.ST_EDITING);
        trial.same("errorCode()", trial.x.errorCode(), EffectHandlers.E_TRAILING);
        trial.same("errorPos()", trial.x.errorPos(), 1);
        trial.same("tokenCount()", trial.x.tokenCount(), 2);
    }

    private static void computes() {
        int[] values = {Integer.MIN_VALUE, Integer.MIN_VALUE + 1, -70000, -1, 0, 1, 2, 70000, Integer.MAX_VALUE};
        for (int p : values) {
            Trial.ready("NUM:" + p).done(p);
            for (int q : values) {
                String parts = " NUM:" + p + " NUM:" + q;
                Trial.ready("ADD" + parts).done(p + q);
                Trial.ready("SUB" + parts).done(p - q);
                Trial.ready("MUL" + parts).done(p * q);
                Trial.ready("LT" + parts).done(p < q ? 1 : 0);
                Trial.ready("EQ" + parts).done(p == q ? 1 : 0);
                Trial.ready("SEQ" + parts).done(q);
                Trial.ready("IF NUM:" + p + " NUM:10 NUM:20").done(p != 0 ? 10 : 20);
            }
        }
        Trial.ready("SUB ADD NUM:1 MUL NUM:2 NUM:3 SUB NUM:4 NUM:9").done(12);
    }

    private static void evaluatesInOrder() {
        for (String two : new String[] {"ADD", "SUB", "MUL", "LT", "EQ", "SEQ", "LET:0"}) {
            Trial trial = Trial.ready(two + " EMIT NUM:1 SEQ EMIT NUM:2 EMIT NUM:3");
            trial.x.run();
            trial.emitted(1, 2, 3);
        }
        Trial.ready("IF EMIT NUM:5 EMIT NUM:6 EMIT NUM:7").done(6).emitted(5, 6);
        Trial.ready("IF EMIT NUM:0 EMIT NUM:6 EMIT NUM:7").done(7).emitted(0, 7);
        Trial.ready("IF NUM:-1 NUM:6 PERFORM:0 NUM:7").done(6).counts(0, 0);
        Trial.ready("EMIT ADD EMIT NUM:1 EMIT NUM:2").done(3).emitted(1, 2, 3);
        Trial.ready("HANDLE:0 EMIT NUM:1 SEQ EMIT NUM:2 PERFORM:0 EMIT NUM:3 RETURN:0,1 EMIT VAR:0 CASE:0,2,3 "
                + "RESUME EMIT NUM:4 EMIT NUM:5 END").done(5).emitted(1, 2, 3, 4, 5, 5);
    }

    private static void bindsVariables() {
        for (int name = 0; name <= 7; name++) {
            Trial.ready("LET:" + name + " NUM:5 ADD VAR:" + name + " NUM:1").done(6);
        }
        Trial.ready("LET:0 NUM:1 LET:1 NUM:2 SUB VAR:0 VAR:1").done(-1);
        Trial.ready("LET:0 NUM:1 ADD LET:0 NUM:10 VAR:0 VAR:0").done(11);
        Trial.ready("LET:0 NUM:1 LET:0 ADD VAR:0 NUM:5 VAR:0").done(6);
        Trial.ready("LET:0 NUM:1 ADD VAR:0 LET:0 NUM:10 VAR:0").done(11);
    }

    private static void handlesWithoutPerform() {
        for (String mode : new String[] {"HANDLE:0", "HANDLE:1"}) {
            Trial.ready(mode + " NUM:7 NUM:3 RETURN:0,1 SUB VAR:0 VAR:1 CASE:0,0,1 EMIT NUM:9 END").done(-4).emitted();
            Trial.ready("LET:0 NUM:1 " + mode + " VAR:0 ADD VAR:0 NUM:1 RETURN:1,2 ADD VAR:0 MUL NUM:10 VAR:1 END").done(21);
            Trial.ready("ADD " + mode + " NUM:7 NUM:3 RETURN:0,1 VAR:0 END NUM:100").done(103);
        }
    }

    private static void handlesPerforms() {
        // A clause that does not resume gives the HANDLE's value, without R.
        for (String mode : new String[] {"HANDLE:0", "HANDLE:1"}) {
            Trial.ready("ADD NUM:1000 " + mode + " NUM:7 ADD EMIT PERFORM:0 NUM:3 NUM:50 RETURN:0,1 NUM:-1 "
                    + "CASE:0,0,1 SUB VAR:0 VAR:1 END").done(996).emitted().counts(1, 0);
        }
        // The clause is that of the operation, whatever the order.
        String cases = " RETURN:0,1 VAR:0 CASE:5,0,1 NUM:55 CASE:2,0,1 NUM:22 CASE:7,0,1 NUM:77 CASE:0,0,1 NUM:11 END";
        int[][] due = {{5, 55}, {2, 22}, {7, 77}, {0, 11}};
        for (int[] pair : due) {
            Trial.ready("HANDLE:0 NUM:0 PERFORM:" + pair[0] + " NUM:1" + cases).done(pair[1]).counts(1, 0);
        }
        Trial.ready("HANDLE:0 NUM:0 PERFORM:1 NUM:1" + cases).traps(EffectHandlers.TRAP_UNHANDLED, 2);
        // A clause sees the binders around the HANDLE, not those around the PERFORM.
        Trial.ready("LET:4 NUM:1 HANDLE:0 NUM:0 LET:4 NUM:2 PERFORM:0 NUM:3 RETURN:0,1 VAR:0 CASE:0,0,1 VAR:4 END").done(1);
        Trial.ready("LET:4 NUM:1 HANDLE:0 NUM:0 LET:4 NUM:2 ADD PERFORM:0 NUM:3 VAR:4 RETURN:0,1 ADD VAR:4 VAR:0 "
                + "CASE:0,4,1 RESUME NUM:0 VAR:4 END").done(6);
        // An operation of the initial parameter, of R or of a clause goes past the handler itself.
        Trial.ready("HANDLE:0 PERFORM:0 NUM:1 NUM:2 RETURN:0,1 VAR:0 CASE:0,0,1 NUM:3 END").traps(EffectHandlers.TRAP_UNHANDLED, 1);
        Trial.ready("HANDLE:0 NUM:1 NUM:2 RETURN:0,1 PERFORM:0 VAR:0 CASE:0,0,1 NUM:3 END").traps(EffectHandlers.TRAP_UNHANDLED, 4);
        Trial.ready("HANDLE:0 NUM:1 PERFORM:0 NUM:2 RETURN:0,1 VAR:0 CASE:0,0,1 PERFORM:0 NUM:3 END")
                .traps(EffectHandlers.TRAP_UNHANDLED, 7).counts(2, 0);
    }

    private static void passesFramesOver() {
        // The inner frame has no CASE for 1: it is captured, and with it its parameter, and comes back on RESUME.
        Trial.ready("HANDLE:0 NUM:1 HANDLE:0 NUM:40 ADD PERFORM:1 NUM:2 PERFORM:0 NUM:3 RETURN:0,1 ADD VAR:0 VAR:1 "
                + "CASE:0,0,1 RESUME VAR:1 VAR:0 END RETURN:0,1 VAR:0 CASE:1,0,1 RESUME NUM:0 MUL NUM:100 VAR:0 END")
                .done(243).counts(2, 2);
        // Without RESUME the captured frame and its R are dropped.
        Trial.ready("HANDLE:0 NUM:1 HANDLE:0 NUM:2 PERFORM:1 NUM:3 RETURN:0,1 EMIT VAR:0 CASE:0,0,1 NUM:4 END "
                + "RETURN:0,1 EMIT VAR:0 CASE:1,0,1 ADD VAR:0 VAR:1 END").done(4).emitted().counts(1, 0);
        // The innermost of two frames with the CASE is used, and the outer one for what its clause performs.
        Trial.ready("HANDLE:0 NUM:10 HANDLE:0 NUM:20 PERFORM:0 NUM:1 RETURN:0,1 NUM:-1 CASE:0,0,1 ADD VAR:1 PERFORM:0 NUM:5 END "
                + "RETURN:0,1 MUL NUM:2 VAR:0 CASE:0,0,1 RESUME NUM:0 ADD VAR:0 VAR:1 END").done(70).counts(2, 1);
    }

    private static void resumesDeepAndShallow() {
        String twice = " NUM:5 ADD PERFORM:0 NUM:1 PERFORM:0 NUM:2 RETURN:0,1 ADD NUM:1000 VAR:1 CASE:0,0,1 RESUME ADD VAR:1 NUM:1 VAR:1 END";
        Trial.ready("HANDLE:0" + twice).done(1007).counts(2, 2);
        Trial.ready("HANDLE:1" + twice).traps(EffectHandlers.TRAP_UNHANDLED, 5).counts(2, 1);
        // SHALLOW: an outer handler gets the next operation, and R of the removed frame is not applied.
        Trial.ready("HANDLE:0 NUM:0 HANDLE:1 NUM:5 ADD PERFORM:0 NUM:1 PERFORM:0 NUM:2 RETURN:0,1 NUM:-1 "
                + "CASE:0,0,1 ADD NUM:100 RESUME NUM:9 VAR:0 END RETURN:0,1 MUL NUM:10 VAR:0 CASE:0,0,1 RESUME NUM:0 VAR:0 END")
                .done(1030).counts(2, 2);
        // The value of a DEEP RESUME is that of R, and the clause goes on with it.
        Trial.ready("HANDLE:0 NUM:5 ADD NUM:7 PERFORM:0 NUM:1 RETURN:0,1 MUL VAR:0 VAR:1 CASE:0,0,1 ADD NUM:1000 RESUME NUM:3 VAR:0 END")
                .done(1024).counts(1, 1);
        // With nothing between the frame and the PERFORM.
        Trial.ready("HANDLE:1 NUM:5 PERFORM:0 NUM:1 RETURN:0,1 NUM:-1 CASE:0,0,1 ADD NUM:1 RESUME EMIT NUM:3 NUM:8 END")
                .done(9).emitted(3).counts(1, 1);
        Trial.ready("HANDLE:0 NUM:5 PERFORM:0 NUM:1 RETURN:0,1 SUB VAR:0 VAR:1 CASE:0,0,1 ADD NUM:1 RESUME NUM:3 NUM:8 END")
                .done(6).counts(1, 1);
    }

    private static void keepsActivationsApart() {
        // Two activations of one CASE: each resumes its own perform, and each only once.
        Trial.ready("HANDLE:0 NUM:0 ADD PERFORM:0 NUM:1 PERFORM:0 NUM:2 RETURN:0,1 VAR:0 CASE:0,0,1 SEQ EMIT RESUME NUM:0 VAR:0 "
                + "EMIT VAR:0 END").done(1).emitted(3, 2, 2, 1).counts(2, 2);
        Trial.ready("HANDLE:0 NUM:0 ADD PERFORM:0 NUM:1 PERFORM:0 NUM:2 RETURN:0,1 VAR:0 CASE:0,0,1 SEQ EMIT RESUME NUM:0 VAR:0 "
                + "RESUME NUM:0 NUM:9 END").traps(EffectHandlers.TRAP_RESUMED_TWICE, 15).emitted(3).counts(2, 2);
        // The inner RESUME uses it up before the outer one is through its parts.
        Trial.ready("HANDLE:0 NUM:0 PERFORM:0 NUM:1 RETURN:0,1 VAR:0 CASE:0,0,1 RESUME NUM:5 RESUME NUM:6 NUM:7 END")
                .traps(EffectHandlers.TRAP_RESUMED_TWICE, 7).counts(1, 1);
        // In the I, B and R of a nested HANDLE a RESUME belongs to the CASE around that HANDLE.
        String outer = "HANDLE:0 NUM:0 ADD NUM:40 PERFORM:0 NUM:1 RETURN:0,1 VAR:0 CASE:0,0,1 ";
        Trial.ready(outer + "HANDLE:0 RESUME NUM:0 NUM:2 NUM:3 RETURN:2,3 ADD VAR:2 VAR:3 END END").done(45);
        Trial.ready(outer + "HANDLE:0 NUM:3 RESUME NUM:0 NUM:2 RETURN:2,3 ADD VAR:2 VAR:3 END END").done(45);
        Trial.ready(outer + "HANDLE:0 NUM:3 NUM:4 RETURN:2,3 RESUME NUM:0 VAR:2 END END").done(44);
        // A nested clause resumes its own perform, not that of the CASE around it.
        Trial.ready(outer + "HANDLE:0 NUM:0 ADD NUM:7 PERFORM:1 NUM:3 RETURN:2,3 VAR:2 CASE:1,2,3 RESUME NUM:0 VAR:2 END END")
                .done(10).counts(2, 1);
        // A piece of a clause that was captured and pushed back still resumes for its own activation.
        Trial.ready("HANDLE:0 NUM:0 HANDLE:0 NUM:0 ADD NUM:30 PERFORM:0 NUM:1 RETURN:0,1 VAR:0 CASE:0,0,1 RESUME NUM:0 PERFORM:1 VAR:0 END "
                + "RETURN:0,1 VAR:0 CASE:1,0,1 ADD NUM:100 RESUME NUM:0 ADD VAR:0 NUM:5 END").done(136).counts(2, 2);
    }

    private static void boundNamesInClauses() {
        Trial.ready("HANDLE:0 NUM:1 NUM:2 RETURN:3,3 VAR:3 END").done(2);
        Trial.ready("HANDLE:0 NUM:1 PERFORM:0 NUM:2 RETURN:3,4 VAR:3 CASE:0,5,5 VAR:5 END").done(2);
        Trial.ready("HANDLE:0 NUM:1 NUM:2 RETURN:6,7 VAR:6 END").done(2);
        Trial.ready("HANDLE:0 NUM:1 NUM:2 RETURN:6,7 VAR:7 END").done(1);
        Trial.ready("HANDLE:0 NUM:1 PERFORM:0 NUM:2 RETURN:6,7 VAR:7 CASE:0,7,6 VAR:7 END").done(2);
        Trial.ready("HANDLE:0 NUM:1 PERFORM:0 NUM:2 RETURN:6,7 VAR:7 CASE:0,7,6 VAR:6 END").done(1);
        Trial.ready("LET:6 NUM:9 HANDLE:0 VAR:6 VAR:6 RETURN:5,6 SUB VAR:6 VAR:5 END").done(0);
        Trial.ready("LET:6 NUM:9 ADD HANDLE:0 NUM:1 NUM:2 RETURN:5,6 VAR:6 END VAR:6").done(10);
    }

    private static void traps() {
        Trial.ready("PERFORM:4 EMIT NUM:1").traps(EffectHandlers.TRAP_UNHANDLED, 0).emitted(1).counts(1, 0);
        Trial.ready("SEQ EMIT NUM:1 SEQ PERFORM:4 EMIT NUM:2 EMIT NUM:3").traps(EffectHandlers.TRAP_UNHANDLED, 4)
                .emitted(1, 2).counts(1, 0);
        Trial.ready("HANDLE:1 NUM:0 PERFORM:0 NUM:1 RETURN:0,1 VAR:0 CASE:0,2,3 ADD RESUME NUM:0 EMIT VAR:2 RESUME EMIT NUM:8 EMIT NUM:7 END")
                .traps(EffectHandlers.TRAP_RESUMED_TWICE, 12).emitted(1, 8, 7).counts(1, 1);
        Trial.ready("EMIT ".repeat(17) + "NUM:6").traps(EffectHandlers.TRAP_OUTPUT, 0)
                .emitted(6, 6, 6, 6, 6, 6, 6, 6, 6, 6, 6, 6, 6, 6, 6, 6);
        Trial.ready("EMIT ".repeat(16) + "NUM:6").done(6).emitted(6, 6, 6, 6, 6, 6, 6, 6, 6, 6, 6, 6, 6, 6, 6, 6);
        // The limit is tested before the handler is looked for, and after the argument is evaluated.
        Trial.ready("HANDLE:0 NUM:0 PERFORM:1 EMIT PERFORM:0 NUM:1 RETURN:0,1 VAR:0 CASE:0,0,1 RESUME NUM:0 VAR:0 END", 1)
                .traps(EffectHandlers.TRAP_LIMIT, 2).emitted(1).counts(1, 1);
        Trial.ready("HANDLE:0 NUM:0 PERFORM:1 EMIT PERFORM:0 NUM:1 RETURN:0,1 VAR:0 CASE:0,0,1 RESUME NUM:0 VAR:0 END", 2)
                .traps(EffectHandlers.TRAP_UNHANDLED, 2).emitted(1).counts(2, 1);
    }

    private static void reachesTheLimits() {
        for (int limit = 1; limit <= 16; limit++) {
            String tail = "NUM:0 RETURN:0,1 ADD VAR:0 VAR:1 CASE:0,0,1 RESUME ADD VAR:1 NUM:1 ADD VAR:0 NUM:1 END";
            String exact = "HANDLE:0 NUM:100 " + "PERFORM:0 ".repeat(limit) + tail;
            Trial.ready(exact, limit).done(100 + 2 * limit).counts(limit, limit);
            if (limit > 1) {
                Trial.ready(exact, limit - 1).traps(EffectHandlers.TRAP_LIMIT, 2).counts(limit - 1, limit - 1);
            }
        }
        // A clause around each RESUME, so that sixteen of them are pending at once.
        Trial.ready("HANDLE:0 NUM:0 " + "PERFORM:0 ".repeat(16) + "NUM:5 RETURN:0,1 VAR:0 CASE:0,0,1 ADD VAR:0 RESUME NUM:0 VAR:0 END")
                .done(5 * 17).counts(16, 16);
    }

    private static void runsAgain() {
        String state = "HANDLE:0 NUM:0 SEQ PERFORM:1 NUM:5 EMIT ADD PERFORM:0 NUM:0 NUM:1 RETURN:0,1 VAR:0 "
                + "CASE:0,2,3 RESUME VAR:3 VAR:3 CASE:1,2,3 RESUME VAR:2 NUM:0 END";
        Trial done = Trial.ready(state);
        Trial trapped = Trial.ready("SEQ EMIT NUM:4 SEQ PERFORM:0 NUM:1 NUM:2");
        for (int i = 0; i < 200; i++) {
            done.done(6).emitted(6).counts(2, 2);
            trapped.traps(EffectHandlers.TRAP_UNHANDLED, 4).emitted(4).counts(1, 0);
        }
        done.same("tokenCount()", done.x.tokenCount(), 21);
        done.same("errorCode()", done.x.errorCode(), 0);
        done.same("errorPos()", done.x.errorPos(), 0);
    }
}
