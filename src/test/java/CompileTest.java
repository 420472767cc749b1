/** Promises 5 and 6: each compile error at its position, the scope rules, and what compile leaves alone. */
public final class CompileTest {
    public static void main(String[] args) {
        acceptsEveryKind();
        findsTrailing();
        findsUnexpected();
        findsUnbound();
        findsResumeOutside();
        findsDuplicateCase();
        findsIncomplete();
        theFirstFaultCounts();
        goesOnAfterAnError();
        isRefusedOutsideEditing();
        Due.end();
    }

    private static void error(String program, int code, int pos) {
        Trial trial = new Trial(program, 32, 16).enter(program);
        int held = trial.x.tokenCount();
        trial.compile(code, pos).compile(code, pos).notRun(EffectHandlers.ST_EDITING);
        trial.same("tokenCount()", trial.x.tokenCount(), held);
        trial.same("run()", trial.x.run(), EffectHandlers.REFUSED);
        trial.same("errorCode()", trial.x.errorCode(), code);
        trial.same("errorPos()", trial.x.errorPos(), pos);
    }

    private static void good(String program) {
        Trial.ready(program).notRun(EffectHandlers.ST_READY);
    }

    private static void acceptsEveryKind() {
        good("NUM:1");
        for (String two : new String[] {"ADD", "SUB", "MUL", "LT", "EQ", "SEQ", "LET:0"}) {
            good(two + " NUM:1 NUM:2");
            good(two + " " + two + " NUM:1 NUM:2 " + two + " NUM:3 NUM:4");
            error(two + " NUM:1", EffectHandlers.E_INCOMPLETE, 2);
            error(two + " NUM:1 NUM:2 NUM:3", EffectHandlers.E_TRAILING, 3);
        }
        for (String one : new String[] {"EMIT", "PERFORM:0", "PERFORM:7"}) {
            good(one + " NUM:1");
            error(one, EffectHandlers.E_INCOMPLETE, 1);
            error(one + " NUM:1 NUM:2", EffectHandlers.E_TRAILING, 2);
        }
        good("IF NUM:1 NUM:2 NUM:3");
        good("IF IF NUM:1 NUM:2 NUM:3 IF NUM:1 NUM:2 NUM:3 IF NUM:1 NUM:2 NUM:3");
        error("IF NUM:1 NUM:2", EffectHandlers.E_INCOMPLETE, 3);
        error("IF NUM:1 NUM:2 NUM:3 NUM:4", EffectHandlers.E_TRAILING, 4);
        good("HANDLE:0 NUM:1 NUM:2 RETURN:0,1 NUM:3 END");
        good("HANDLE:1 NUM:1 NUM:2 RETURN:0,1 NUM:3 CASE:0,0,0 NUM:4 END");
        good("HANDLE:1 NUM:1 NUM:2 RETURN:0,1 NUM:3 CASE:0,0,0 NUM:4 CASE:1,0,0 RESUME NUM:5 NUM:6 CASE:7,0,0 NUM:7 END");
        good("EMIT ".repeat(31) + "NUM:1");
    }

    private static void findsTrailing() {
        error("NUM:1 NUM:2", EffectHandlers.E_TRAILING, 1);
        error("NUM:1 END", EffectHandlers.E_TRAILING, 1);
        error("NUM:1 VAR:0", EffectHandlers.E_TRAILING, 1);
        error("NUM:1 RESUME", EffectHandlers.E_TRAILING, 1);
        error("NUM:1 CASE:0,0,0", EffectHandlers.E_TRAILING, 1);
        error("HANDLE:0 NUM:1 NUM:2 RETURN:0,1 NUM:3 END END", EffectHandlers.E_TRAILING, 6);
        error("HANDLE:0 NUM:1 NUM:2 RETURN:0,1 NUM:3 END CASE:0,0,0", EffectHandlers.E_TRAILING, 6);
    }

    private static void findsUnexpected() {
        for (String clause : new String[] {"RETURN:0,0", "CASE:0,0,0", "END"}) {
            error(clause, EffectHandlers.E_UNEXPECTED, 0);
            error("ADD " + clause, EffectHandlers.E_UNEXPECTED, 1);
            error("ADD NUM:1 " + clause, EffectHandlers.E_UNEXPECTED, 2);
            error("HANDLE:0 " + clause, EffectHandlers.E_UNEXPECTED, 1);
            error("HANDLE:0 NUM:1 " + clause, EffectHandlers.E_UNEXPECTED, 2);
            error("HANDLE:0 NUM:1 NUM:2 RETURN:0,0 " + clause, EffectHandlers.E_UNEXPECTED, 4);
            error("HANDLE:0 NUM:1 NUM:2 RETURN:0,0 NUM:3 CASE:0,0,0 " + clause, EffectHandlers.E_UNEXPECTED, 6);
            error("HANDLE:0 NUM:1 ADD NUM:2 " + clause, EffectHandlers.E_UNEXPECTED, 4);
        }
        String[] starts = {"NUM:1", "VAR:0", "ADD", "SUB", "MUL", "LT", "EQ", "IF", "LET:0", "SEQ", "EMIT", "PERFORM:0",
            "RESUME", "HANDLE:0"};
        for (String start : starts) {
            error("HANDLE:0 NUM:1 NUM:2 " + start, EffectHandlers.E_UNEXPECTED, 3);
            error("HANDLE:0 NUM:1 NUM:2 RETURN:0,1 NUM:3 " + start, EffectHandlers.E_UNEXPECTED, 5);
            error("HANDLE:0 NUM:1 NUM:2 RETURN:0,1 NUM:3 CASE:0,0,0 NUM:4 " + start, EffectHandlers.E_UNEXPECTED, 7);
        }
        error("HANDLE:0 NUM:1 NUM:2 CASE:0,0,0", EffectHandlers.E_UNEXPECTED, 3);
        error("HANDLE:0 NUM:1 NUM:2 END", EffectHandlers.E_UNEXPECTED, 3);
        error("HANDLE:0 NUM:1 NUM:2 RETURN:0,1 NUM:3 RETURN:0,1", EffectHandlers.E_UNEXPECTED, 5);
        error("HANDLE:0 NUM:1 NUM:2 RETURN:0,1 NUM:3 CASE:0,0,0 NUM:4 RETURN:0,1", EffectHandlers.E_UNEXPECTED, 7);
    }

    private static void findsUnbound() {
        error("VAR:0", EffectHandlers.E_UNBOUND, 0);
        error("LET:0 VAR:0 NUM:1", EffectHandlers.E_UNBOUND, 1);
        error("LET:0 NUM:1 VAR:1", EffectHandlers.E_UNBOUND, 2);
        error("ADD LET:0 NUM:1 VAR:0 VAR:0", EffectHandlers.E_UNBOUND, 4);
        error("LET:0 LET:1 NUM:1 VAR:1 VAR:1", EffectHandlers.E_UNBOUND, 4);
        error("EMIT ".repeat(31) + "VAR:0", EffectHandlers.E_UNBOUND, 31);
        good("LET:0 NUM:1 " + "EMIT ".repeat(29) + "VAR:0");
        good("LET:7 NUM:1 VAR:7");
        good("LET:0 NUM:1 LET:1 VAR:0 ADD VAR:0 VAR:1");
        good("LET:0 NUM:1 LET:0 VAR:0 VAR:0");
        for (int name = 0; name <= 7; name++) {
            boolean inReturn = name == 1 || name == 2;
            boolean inCase = name == 4 || name == 5;
            scoped("HANDLE:0 VAR:" + name, 1, false);
            scoped("HANDLE:0 NUM:1 VAR:" + name, 2, false);
            scoped("HANDLE:0 NUM:1 NUM:2 RETURN:1,2 VAR:" + name, 4, inReturn);
            scoped("HANDLE:0 NUM:1 NUM:2 RETURN:1,2 NUM:3 CASE:3,4,5 VAR:" + name, 6, inCase);
            scoped("HANDLE:0 NUM:1 NUM:2 RETURN:1,2 NUM:3 CASE:3,4,5 NUM:4 CASE:6,7,7 VAR:" + name, 8, name == 7);
            scoped("ADD HANDLE:0 NUM:1 NUM:2 RETURN:1,2 NUM:3 CASE:3,4,5 NUM:4 END VAR:" + name, 9, false);
            scoped("LET:6 NUM:0 HANDLE:0 VAR:6 VAR:6 RETURN:1,2 VAR:6 CASE:3,4,5 VAR:6 CASE:0,0,0 VAR:" + name, 10,
                    name == 6 || name == 0);
        }
        good("HANDLE:0 NUM:1 NUM:2 RETURN:0,0 VAR:0 CASE:0,1,1 VAR:1 END");
        error("HANDLE:0 NUM:1 NUM:2 RETURN:0,1 HANDLE:0 VAR:0 VAR:1 RETURN:2,3 VAR:0 CASE:0,4,5 VAR:2", EffectHandlers.E_UNBOUND, 10);
    }

    /** The last token is a VAR at this position, and the program breaks off behind it. */
    private static void scoped(String program, int pos, boolean bound) {
        if (bound) {
            error(program, EffectHandlers.E_INCOMPLETE, pos + 1);
        } else {
            error(program, EffectHandlers.E_UNBOUND, pos);
        }
    }

    private static void findsResumeOutside() {
        error("RESUME NUM:1 NUM:2", EffectHandlers.E_RESUME_OUTSIDE, 0);
        error("ADD NUM:1 RESUME NUM:1 NUM:2", EffectHandlers.E_RESUME_OUTSIDE, 2);
        error("HANDLE:0 RESUME", EffectHandlers.E_RESUME_OUTSIDE, 1);
        error("HANDLE:0 NUM:1 RESUME", EffectHandlers.E_RESUME_OUTSIDE, 2);
        error("HANDLE:0 NUM:1 NUM:2 RETURN:0,1 RESUME", EffectHandlers.E_RESUME_OUTSIDE, 4);
        error("ADD HANDLE:0 NUM:1 NUM:2 RETURN:0,1 NUM:3 CASE:0,0,0 NUM:4 END RESUME", EffectHandlers.E_RESUME_OUTSIDE, 9);
        String inCase = "HANDLE:0 NUM:1 NUM:2 RETURN:0,1 NUM:3 CASE:0,0,0 ";
        good(inCase + "RESUME NUM:1 NUM:2 END");
        good(inCase + "ADD NUM:1 LET:0 NUM:1 RESUME RESUME NUM:1 NUM:2 NUM:3 END");
        good(inCase + "HANDLE:1 RESUME NUM:1 NUM:2 NUM:3 RETURN:0,1 NUM:4 END END");
        good(inCase + "HANDLE:1 NUM:1 RESUME NUM:1 NUM:2 RETURN:0,1 NUM:4 END END");
        good(inCase + "HANDLE:1 NUM:1 NUM:2 RETURN:0,1 RESUME NUM:1 NUM:2 END END");
        good(inCase + "HANDLE:1 NUM:1 NUM:2 RETURN:0,1 NUM:3 CASE:0,0,0 RESUME NUM:1 NUM:2 END END");
    }

    private static void findsDuplicateCase() {
        String start = "HANDLE:0 NUM:1 NUM:2 RETURN:0,1 NUM:3 ";
        error(start + "CASE:0,0,0 NUM:4 CASE:0,1,1 NUM:5 END", EffectHandlers.E_DUP_CASE, 7);
        error(start + "CASE:0,0,0 NUM:4 CASE:1,1,1 NUM:5 CASE:0,2,2", EffectHandlers.E_DUP_CASE, 9);
        error(start + "CASE:7,0,0 NUM:4 CASE:1,1,1 NUM:5 CASE:7,2,2", EffectHandlers.E_DUP_CASE, 9);
        error(start + "CASE:2,0,0 NUM:4 CASE:1,1,1 NUM:5 CASE:1,2,2", EffectHandlers.E_DUP_CASE, 9);
        good(start + "CASE:0,0,0 HANDLE:0 NUM:1 NUM:2 RETURN:0,1 NUM:3 CASE:0,0,0 NUM:4 END END");
        good("HANDLE:0 NUM:1 " + start + "CASE:0,0,0 NUM:4 END RETURN:0,1 NUM:3 CASE:0,0,0 NUM:4 END");
        error(start + "CASE:1,0,0 HANDLE:0 NUM:1 NUM:2 RETURN:0,1 NUM:3 CASE:0,0,0 NUM:4 END CASE:1,0,0",
                EffectHandlers.E_DUP_CASE, 14);
        StringBuilder all = new StringBuilder(start);
        for (int operation = 7; operation >= 0; operation--) {
            all.append("CASE:").append(operation).append(",0,0 NUM:0 ");
        }
        good(all + "END");
        error(all + "CASE:3,0,0 NUM:0 END", EffectHandlers.E_DUP_CASE, 21);
    }

    private static void findsIncomplete() {
        error("", EffectHandlers.E_INCOMPLETE, 0);
        error("HANDLE:0", EffectHandlers.E_INCOMPLETE, 1);
        error("HANDLE:0 NUM:1", EffectHandlers.E_INCOMPLETE, 2);
        error("HANDLE:0 NUM:1 NUM:2", EffectHandlers.E_INCOMPLETE, 3);
        error("HANDLE:0 NUM:1 NUM:2 RETURN:0,1", EffectHandlers.E_INCOMPLETE, 4);
        error("HANDLE:0 NUM:1 NUM:2 RETURN:0,1 NUM:3", EffectHandlers.E_INCOMPLETE, 5);
        error("HANDLE:0 NUM:1 NUM:2 RETURN:0,1 NUM:3 CASE:0,0,0", EffectHandlers.E_INCOMPLETE, 6);
        error("HANDLE:0 NUM:1 NUM:2 RETURN:0,1 NUM:3 CASE:0,0,0 NUM:4", EffectHandlers.E_INCOMPLETE, 7);
        error("ADD HANDLE:0 NUM:1 NUM:2 RETURN:0,1 NUM:3 END", EffectHandlers.E_INCOMPLETE, 7);
        error("EMIT ".repeat(32), EffectHandlers.E_INCOMPLETE, 32);
    }

    private static void theFirstFaultCounts() {
        error("ADD VAR:3 END", EffectHandlers.E_UNBOUND, 1);
        error("ADD END VAR:3", EffectHandlers.E_UNEXPECTED, 1);
        error("ADD RESUME VAR:3", EffectHandlers.E_RESUME_OUTSIDE, 1);
        error("EMIT NUM:1 VAR:3 END", EffectHandlers.E_TRAILING, 2);
        error("HANDLE:0 NUM:1 NUM:2 VAR:3", EffectHandlers.E_UNEXPECTED, 3);
    }

    private static void goesOnAfterAnError() {
        Trial trial = new Trial("goes on", 32, 16).compile(EffectHandlers.E_INCOMPLETE, 0);
        trial.enter("HANDLE:0 NUM:1").compile(EffectHandlers.E_INCOMPLETE, 2);
        trial.enter("PERFORM:2 NUM:5 RETURN:0,1 VAR:0").compile(EffectHandlers.E_INCOMPLETE, 6);
        trial.enter("CASE:2,0,1 ADD VAR:0 VAR:1").compile(EffectHandlers.E_INCOMPLETE, 10);
        trial.enter("END").compile(EffectHandlers.E_NONE, 0).done(6);
        Trial broken = new Trial("stays broken", 32, 16).enter("ADD END").compile(EffectHandlers.E_UNEXPECTED, 1);
        broken.enter("NUM:1 NUM:2").compile(EffectHandlers.E_UNEXPECTED, 1);
    }

    private static void isRefusedOutsideEditing() {
        Trial trial = Trial.ready("SEQ EMIT NUM:3 PERFORM:0 NUM:1");
        refused(trial, EffectHandlers.ST_READY);
        trial.notRun(EffectHandlers.ST_READY);
        trial.traps(EffectHandlers.TRAP_UNHANDLED, 3);
        refused(trial, EffectHandlers.ST_TRAPPED);
        trial.ended(EffectHandlers.ST_TRAPPED, 0, EffectHandlers.TRAP_UNHANDLED, 3).emitted(3).counts(1, 0);
        Trial done = Trial.ready("EMIT NUM:3").done(3);
        refused(done, EffectHandlers.ST_DONE);
        done.ended(EffectHandlers.ST_DONE, 3, EffectHandlers.TRAP_NONE, -1).emitted(3);
    }

    private static void refused(Trial trial, int status) {
        trial.same("compile()", trial.x.compile(), EffectHandlers.REFUSED).status(status);
        trial.same("errorCode()", trial.x.errorCode(), 0);
        trial.same("errorPos()", trial.x.errorPos(), 0);
    }
}
