import java.util.Arrays;

/** The edges that promises 1 and 2 name, a test for each sentence. */
public final class StartEdgesTest {
    private static final int MIN = Integer.MIN_VALUE;
    private static final int MAX = Integer.MAX_VALUE;
    // What is given, and what is due for it.
    private static final int[][] TOKEN_LIMITS = {{MIN, 8}, {-1, 8}, {0, 8}, {7, 8}, {8, 8}, {9, 9}, {31, 31}, {32, 32}, {33, 32},
        {MAX, 32}};
    private static final int[][] PERFORM_LIMITS = {{MIN, 1}, {-1, 1}, {0, 1}, {1, 1}, {2, 2}, {15, 15}, {16, 16}, {17, 16}, {MAX, 16}};

    public static void main(String[] args) {
        Due.sentence("EffectHandlers(maxTokens, maxPerforms) clamps maxTokens into 8..32 and maxPerforms into 1..16: a value below "
                + "the least becomes the least, a value above the greatest becomes the greatest (so any int, including negative "
                + "values and Integer.MIN_VALUE/Integer.MAX_VALUE, is accepted).", StartEdgesTest::clamps);
        Due.sentence("These clamped values are the ones used everywhere below under the names maxTokens and maxPerforms.",
                StartEdgesTest::usesTheClamped);
        Due.sentence("The initial state is the state after reset(): no tokens, status ST_EDITING, errorCode 0, errorPos 0, empty "
                + "output, performCount, resumeCount and result 0, trapCode TRAP_NONE, trapPos -1.", StartEdgesTest::startsAsReset);
        Due.sentence("reset() works in every state.", StartEdgesTest::worksInEveryState);
        Due.sentence("It removes all tokens, sets status ST_EDITING, errorCode 0, errorPos 0, empties the output, and sets "
                + "performCount, resumeCount and result to 0, trapCode to TRAP_NONE and trapPos to -1.", StartEdgesTest::clearsAll);
        Due.sentence("The clamped maxTokens and maxPerforms are kept.", StartEdgesTest::keepsTheLimits);
        Due.sentence("It is the only way to leave ST_READY, ST_DONE or ST_TRAPPED back to ST_EDITING.", StartEdgesTest::onlyWayBack);
        Due.end();
    }

    private static void holdsExactly(Trial trial, int most) {
        trial.enter("NUM:1 ".repeat(most)).refuses(EffectHandlers.FULL, EffectHandlers.NUM, 1, 0, 0).holdsTokens(most);
    }

    /** Needs eleven tokens at least; performs as often as tokens allow, and resumes each time. */
    private static String chain(int performs) {
        return "HANDLE:0 NUM:0 " + "PERFORM:0 ".repeat(performs) + "NUM:3 RETURN:0,1 VAR:0 CASE:0,0,1 RESUME NUM:0 VAR:0 END";
    }

    private static void performsExactly(Trial trial, int most) {
        trial.enter(chain(most)).compile(EffectHandlers.E_NONE, 0).done(3).counts(most, most);
        trial.reset().enter(chain(most + 1)).compile(EffectHandlers.E_NONE, 0).traps(EffectHandlers.TRAP_LIMIT, 2).counts(most, most);
    }

    private static void clamps() {
        for (int[] limit : TOKEN_LIMITS) {
            holdsExactly(new Trial("maxTokens " + limit[0], limit[0], 1), limit[1]);
        }
        for (int[] limit : PERFORM_LIMITS) {
            performsExactly(new Trial("maxPerforms " + limit[0], 32, limit[0]), limit[1]);
        }
    }

    private static void usesTheClamped() {
        // Both at once, so that one limit does not reach into the other.
        for (int[] tokens : TOKEN_LIMITS) {
            for (int[] performs : PERFORM_LIMITS) {
                Trial trial = new Trial("limits " + tokens[0] + " and " + performs[0], tokens[0], performs[0]);
                holdsExactly(trial, tokens[1]);
                if (tokens[1] >= performs[1] + 11) {
                    performsExactly(trial.reset(), performs[1]);
                }
            }
        }
        // Eight tokens suffice to perform once, and no perform of the least object is unlimited.
        Trial least = new Trial("least", MIN, MIN).enter("PERFORM:0 PERFORM:0 NUM:1").compile(EffectHandlers.E_NONE, 0);
        least.traps(EffectHandlers.TRAP_UNHANDLED, 1).counts(1, 0);
    }

    private static void startsAsReset() {
        for (int tokens : new int[] {MIN, 0, 8, 32, MAX}) {
            for (int performs : new int[] {MIN, 0, 1, 16, MAX}) {
                Trial trial = new Trial("start " + tokens + " " + performs, tokens, performs).fresh();
                int[] start = trial.readings();
                Due.holds("a new object reads as one after reset", Arrays.equals(start, trial.reset().readings()));
            }
        }
    }

    private static void worksInEveryState() {
        for (Trial trial : States.all()) {
            trial.reset().status(EffectHandlers.ST_EDITING);
            trial.reset().status(EffectHandlers.ST_EDITING);
            trial.enter(States.EIGHT).compile(EffectHandlers.E_NONE, 0).done(1).emitted(1, 1, 1, 1, 1, 1, 1);
        }
    }

    private static void clearsAll() {
        for (Trial trial : States.all()) {
            trial.reset().fresh();
            trial.unchangedBy("run()", trial.x::run, EffectHandlers.REFUSED);
            trial.compile(EffectHandlers.E_INCOMPLETE, 0);
            trial.reset().fresh();
        }
        // What the old tokens bound is gone with them, also where the scan broke off in the midst of it.
        Trial open = new Trial("an open LET", 32, 16).enter("ADD NUM:1 LET:0 NUM:2 EMIT").compile(EffectHandlers.E_INCOMPLETE, 5);
        open.reset().enter("EMIT VAR:0").compile(EffectHandlers.E_UNBOUND, 1);
        open.reset().enter("ADD NUM:1 HANDLE:0 NUM:2 NUM:3 RETURN:0,1 NUM:4 CASE:0,0,1").compile(EffectHandlers.E_INCOMPLETE, 8);
        open.reset().enter("EMIT RESUME").compile(EffectHandlers.E_RESUME_OUTSIDE, 1);
    }

    private static void keepsTheLimits() {
        for (int[] limit : TOKEN_LIMITS) {
            Trial trial = new Trial("maxTokens after reset " + limit[0], limit[0], 1);
            holdsExactly(trial.reset(), limit[1]);
            holdsExactly(trial.reset().reset(), limit[1]);
        }
        for (int[] limit : PERFORM_LIMITS) {
            Trial trial = new Trial("maxPerforms after reset " + limit[0], 32, limit[0]);
            performsExactly(trial.reset(), limit[1]);
            performsExactly(trial.reset().reset(), limit[1]);
        }
    }

    private static void onlyWayBack() {
        for (Trial trial : States.compiled()) {
            for (int kind = 0; kind <= 18; kind++) {
                trial.refuses(EffectHandlers.REFUSED, kind, 0, 0, 0);
            }
            trial.unchangedBy("compile()", trial.x::compile, EffectHandlers.REFUSED);
            trial.x.run();
            trial.x.run();
            Due.holds("not editing after run", trial.x.status() != EffectHandlers.ST_EDITING);
            trial.unchangedBy("compile() after run", trial.x::compile, EffectHandlers.REFUSED);
            trial.reset().status(EffectHandlers.ST_EDITING);
        }
    }
}
