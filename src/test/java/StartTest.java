/** Promise 1: construction clamps the two limits and leaves the state of reset. */
public final class StartTest {
    public static void main(String[] args) {
        int[][] tokenLimits = {{Integer.MIN_VALUE, 8}, {-1, 8}, {0, 8}, {7, 8}, {8, 8}, {9, 9}, {20, 20}, {31, 31},
            {32, 32}, {33, 32}, {Integer.MAX_VALUE, 32}};
        int[][] performLimits = {{Integer.MIN_VALUE, 1}, {-1, 1}, {0, 1}, {1, 1}, {2, 2}, {9, 9}, {15, 15}, {16, 16},
            {17, 16}, {Integer.MAX_VALUE, 16}};
        for (int[] limit : tokenLimits) {
            new Trial("new", limit[0], 5).fresh();
            holdsTokens(limit[0], limit[1]);
        }
        for (int[] limit : performLimits) {
            new Trial("new", 20, limit[0]).fresh();
            allowsPerforms(limit[0], limit[1]);
        }
        new Trial("both least", Integer.MIN_VALUE, Integer.MIN_VALUE).fresh();
        new Trial("both greatest", Integer.MAX_VALUE, Integer.MAX_VALUE).fresh();
        objectsAreApart();
        Due.end();
    }

    private static void holdsTokens(int given, int due) {
        Trial trial = new Trial("maxTokens " + given, given, 1);
        for (int i = 1; i <= due; i++) {
            trial.same("token", trial.x.token(EffectHandlers.NUM, i, 0, 0), i);
        }
        trial.same("token when full", trial.x.token(EffectHandlers.NUM, 0, 0, 0), EffectHandlers.FULL);
        trial.same("tokenCount()", trial.x.tokenCount(), due);
    }

    private static void allowsPerforms(int given, int due) {
        String chain = "PERFORM:0 ".repeat(17);
        Trial trial = Trial.ready("HANDLE:0 NUM:0 " + chain + "NUM:3 RETURN:0,1 VAR:0 CASE:0,0,1 RESUME NUM:0 VAR:0 END",
                given);
        trial.traps(EffectHandlers.TRAP_LIMIT, 2 + 16 - due).counts(due, due);
    }

    private static void objectsAreApart() {
        Trial one = Trial.ready("EMIT NUM:1");
        Trial other = Trial.ready("EMIT NUM:2");
        one.done(1);
        other.done(2).emitted(2);
        one.ended(EffectHandlers.ST_DONE, 1, EffectHandlers.TRAP_NONE, -1).emitted(1);
    }
}
