/** The edges that the consequence in promise 7 names (the standard state handler), a test for each sentence. */
public final class StateEdgesTest {
    private static final int[] PLAIN = {0, 1, 2, 3, 2, 3};

    public static void main(String[] args) {
        Due.sentence("let H be RETURN(x,w) VAR(x) CASE(0,v,q) RESUME VAR(q) VAR(q) CASE(1,v2,q2) RESUME VAR(v2) NUM(0) END for any x, "
                + "w, v, q, v2, q2 in 0..7 with v != q.", StateEdgesTest::anyVariables);
        Due.sentence("I is evaluated first by the same rules (its EMITs append to the output and may trap TRAP_OUTPUT) and a mutable "
                + "cell s is set to its value;", StateEdgesTest::initialValue);
        Due.sentence("then B is evaluated by the same rules (including TRAP_OUTPUT);", StateEdgesTest::bodyTraps);
        Due.sentence("PERFORM(0) X evaluates X, makes the same limit test and count (trap TRAP_LIMIT at that token when the count "
                + "already equals maxPerforms) and gives s;", StateEdgesTest::readsAtTheLimit);
        Due.sentence("PERFORM(1) X evaluates X to u, makes the same limit test and count, sets s to u and gives 0;",
                StateEdgesTest::writesAtTheLimit);
        Due.sentence("without a trap the result is the value of B.", StateEdgesTest::valueOfB);
        Due.sentence("Moreover resumeCount() == performCount() after every such run, whether it ends in ST_DONE or ST_TRAPPED.",
                StateEdgesTest::asManyResumes);
        Due.end();
    }

    private static String handler(int[] v) {
        return " RETURN:" + v[0] + "," + v[1] + " VAR:" + v[0] + " CASE:0," + v[2] + "," + v[3] + " RESUME VAR:" + v[3] + " VAR:" + v[3]
                + " CASE:1," + v[4] + "," + v[5] + " RESUME VAR:" + v[4] + " NUM:0 END";
    }

    private static Trial ready(String initial, String body, int maxPerforms) {
        return Trial.ready("HANDLE:0 " + initial + " " + body + handler(PLAIN), maxPerforms);
    }

    /** All of them: 8 to the 6th, without those in which v and q are the same. */
    private static void anyVariables() {
        Trial trial = new Trial("any variables", 32, 16);
        int[][] body = Tokens.read("HANDLE:0 NUM:5 ADD MUL NUM:10 PERFORM:0 NUM:1 ADD PERFORM:1 NUM:7 PERFORM:0 NUM:2");
        for (int code = 0; code < 1 << 18; code++) {
            int[] v = {code & 7, code >> 3 & 7, code >> 6 & 7, code >> 9 & 7, code >> 12 & 7, code >> 15 & 7};
            if (v[2] != v[3]) {
                enter(trial.reset(), body);
                enter(trial, new int[][] {{14, v[0], v[1], 0}, {2, v[0], 0, 0}, {15, 0, v[2], v[3]}, {17, 0, 0, 0}, {2, v[3], 0, 0},
                    {2, v[3], 0, 0}, {15, 1, v[4], v[5]}, {17, 0, 0, 0}, {2, v[4], 0, 0}, {1, 0, 0, 0}, {16, 0, 0, 0}});
                trial.compile(EffectHandlers.E_NONE, 0).done(57).counts(3, 3);
            }
        }
    }

    private static void enter(Trial trial, int[][] rows) {
        for (int[] row : rows) {
            trial.x.token(row[0], row[1], row[2], row[3]);
        }
    }

    private static void initialValue() {
        for (int s : new int[] {Integer.MIN_VALUE, -1, 0, 1, Integer.MAX_VALUE}) {
            ready("NUM:" + s, "PERFORM:0 NUM:9", 16).done(s).counts(1, 1);
        }
        ready("EMIT NUM:4", "EMIT PERFORM:0 NUM:9", 16).done(4).emitted(4, 4).counts(1, 1);
        // All places are taken by I: B may still perform, but not emit.
        ready("EMIT ".repeat(16) + "NUM:4", "PERFORM:0 NUM:9", 16).done(4).counts(1, 1);
        ready("EMIT ".repeat(16) + "NUM:4", "EMIT NUM:9", 16).traps(EffectHandlers.TRAP_OUTPUT, 18).counts(0, 0);
        ready("EMIT ".repeat(17) + "NUM:4", "PERFORM:0 NUM:9", 16).traps(EffectHandlers.TRAP_OUTPUT, 1).counts(0, 0);
    }

    private static void bodyTraps() {
        ready("NUM:4", "EMIT ".repeat(16) + "NUM:9", 16).done(9);
        ready("NUM:4", "EMIT ".repeat(17) + "PERFORM:0 NUM:9", 16).traps(EffectHandlers.TRAP_OUTPUT, 2)
                .emitted(4, 4, 4, 4, 4, 4, 4, 4, 4, 4, 4, 4, 4, 4, 4, 4).counts(1, 1);
        ready("EMIT NUM:4", "EMIT ".repeat(16) + "NUM:9", 16).traps(EffectHandlers.TRAP_OUTPUT, 3)
                .emitted(4, 9, 9, 9, 9, 9, 9, 9, 9, 9, 9, 9, 9, 9, 9, 9).counts(0, 0);
    }

    private static void readsAtTheLimit() {
        for (int limit = 1; limit <= 16; limit++) {
            ready("NUM:4", "PERFORM:0 ".repeat(limit) + "NUM:9", limit).done(4).counts(limit, limit);
            ready("NUM:4", "PERFORM:0 ".repeat(limit + 1) + "EMIT NUM:9", limit).traps(EffectHandlers.TRAP_LIMIT, 2).emitted(9)
                    .counts(limit, limit);
        }
    }

    private static void writesAtTheLimit() {
        for (int limit = 1; limit <= 16; limit++) {
            ready("NUM:4", "PERFORM:1 ".repeat(limit) + "NUM:9", limit).done(0).counts(limit, limit);
            ready("NUM:4", "PERFORM:1 ".repeat(limit + 1) + "EMIT NUM:9", limit).traps(EffectHandlers.TRAP_LIMIT, 2).emitted(9)
                    .counts(limit, limit);
        }
        for (int u : new int[] {Integer.MIN_VALUE, -1, 0, 1, Integer.MAX_VALUE}) {
            ready("NUM:4", "SEQ EMIT PERFORM:1 NUM:" + u + " PERFORM:0 NUM:9", 2).done(u).emitted(0).counts(2, 2);
        }
        // X is evaluated before the cell is set: it reads the old value.
        ready("NUM:4", "SEQ PERFORM:1 ADD PERFORM:0 NUM:0 NUM:1 PERFORM:0 NUM:0", 3).done(5).counts(3, 3);
    }

    private static void valueOfB() {
        ready("NUM:4", "NUM:9", 1).done(9).counts(0, 0);
        ready("NUM:4", "LET:0 PERFORM:0 NUM:0 SUB VAR:0 PERFORM:1 NUM:8", 2).done(4).counts(2, 2);
    }

    private static void asManyResumes() {
        // Done, stopped by the limit, and stopped by the output in B and in I; without any perform and with all of them.
        ready("NUM:4", "NUM:9", 1).done(9).counts(0, 0);
        ready("NUM:4", "PERFORM:0 ".repeat(16) + "NUM:9", 16).done(4).counts(16, 16);
        ready("NUM:4", "PERFORM:1 ".repeat(17) + "NUM:9", 16).traps(EffectHandlers.TRAP_LIMIT, 2).counts(16, 16);
        ready("NUM:4", "EMIT ".repeat(17) + "PERFORM:1 NUM:9", 16).traps(EffectHandlers.TRAP_OUTPUT, 2).counts(1, 1);
        ready("EMIT ".repeat(17) + "NUM:4", "PERFORM:1 NUM:9", 16).traps(EffectHandlers.TRAP_OUTPUT, 1).counts(0, 0);
    }
}
