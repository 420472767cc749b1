/** Promises 3 and 4: what token refuses, in which order, and what tokenCount and tokenKind tell. */
public final class TokenTest {
    private static final int[] OUTSIDE = {Integer.MIN_VALUE, -1, 8, 9, Integer.MAX_VALUE};

    public static void main(String[] args) {
        takesEveryKind();
        refusesOtherKinds();
        checksListedArguments();
        ignoresOtherArguments();
        testsInOrder();
        keepsTheError();
        readsKinds();
        Due.end();
    }

    private static void takesEveryKind() {
        Trial trial = new Trial("every kind", 32, 16);
        for (int kind = EffectHandlers.NUM; kind <= EffectHandlers.RESUME; kind++) {
            trial.same("token " + kind, trial.x.token(kind, 0, 0, 0), kind);
            trial.same("tokenCount()", trial.x.tokenCount(), kind);
        }
        trial.notRun(EffectHandlers.ST_EDITING);
        for (int i = 0; i < 17; i++) {
            trial.same("tokenKind " + i, trial.x.tokenKind(i), i + 1);
        }
    }

    private static void refusesOtherKinds() {
        Trial trial = new Trial("other kinds", 32, 16).enter("NUM:5");
        for (int kind : new int[] {Integer.MIN_VALUE, -1, 0, 18, 19, Integer.MAX_VALUE}) {
            trial.same("token " + kind, trial.x.token(kind, 0, 0, 0), EffectHandlers.BAD_KIND);
            trial.same("token " + kind, trial.x.token(kind, -1, -1, -1), EffectHandlers.BAD_KIND);
        }
        holdsOneNumber(trial, 5);
    }

    private static void holdsOneNumber(Trial trial, int number) {
        trial.same("tokenCount()", trial.x.tokenCount(), 1);
        trial.same("tokenKind(1)", trial.x.tokenKind(1), 0);
        trial.compile(EffectHandlers.E_NONE, 0).done(number);
    }

    private static void checksListedArguments() {
        // Each kind with the greatest values of a, b and c; -1 where the kind does not list the argument.
        int[][] ranges = {{EffectHandlers.VAR, 7, -1, -1}, {EffectHandlers.LET, 7, -1, -1},
            {EffectHandlers.PERFORM, 7, -1, -1}, {EffectHandlers.HANDLE, 1, -1, -1}, {EffectHandlers.RETURN, 7, 7, -1},
            {EffectHandlers.CASE, 7, 7, 7}};
        for (int[] range : ranges) {
            for (int place = 1; place <= 3 && range[place] >= 0; place++) {
                checkRange(range[0], place, range[place]);
            }
        }
    }

    private static void checkRange(int kind, int place, int greatest) {
        Trial trial = new Trial("kind " + kind + " argument " + place, 32, 16);
        for (int value = 0; value <= greatest; value++) {
            trial.same("value " + value, enter(trial, kind, place, value), value + 1);
        }
        for (int value : new int[] {Integer.MIN_VALUE, -1, greatest + 1, greatest + 2, Integer.MAX_VALUE}) {
            trial.same("value " + value, enter(trial, kind, place, value), EffectHandlers.BAD_ARG);
            trial.same("tokenCount()", trial.x.tokenCount(), greatest + 1);
        }
    }

    private static int enter(Trial trial, int kind, int place, int value) {
        return trial.x.token(kind, place == 1 ? value : 0, place == 2 ? value : 0, place == 3 ? value : 0);
    }

    private static void ignoresOtherArguments() {
        for (int other : OUTSIDE) {
            Trial trial = new Trial("unlisted " + other, 32, 16);
            for (int kind = EffectHandlers.NUM; kind <= EffectHandlers.RESUME; kind++) {
                int a = kind == EffectHandlers.VAR || kind == EffectHandlers.LET || kind == EffectHandlers.PERFORM
                        || kind == EffectHandlers.HANDLE || kind == EffectHandlers.RETURN || kind == EffectHandlers.CASE ? 0 : other;
                int b = kind == EffectHandlers.RETURN || kind == EffectHandlers.CASE ? 0 : other;
                int c = kind == EffectHandlers.CASE ? 0 : other;
                trial.same("token " + kind, trial.x.token(kind, a, b, c), kind);
            }
        }
        Trial.ready("NUM:-2147483648,9,9").done(Integer.MIN_VALUE);
        Trial.ready("NUM:2147483647,-1,-1").done(Integer.MAX_VALUE);
        Trial.ready("LET:1,9,9 NUM:5,9,9 ADD:9,9,9 VAR:1,9,9 NUM:1,9,9").done(6);
    }

    private static void testsInOrder() {
        Trial trial = new Trial("order", 8, 1).enter("ADD NUM:1 NUM:2 NUM:3 NUM:4 NUM:5 NUM:6");
        trial.same("bad kind first", trial.x.token(18, -1, -1, -1), EffectHandlers.BAD_KIND);
        trial.same("then bad argument", trial.x.token(EffectHandlers.VAR, -1, -1, -1), EffectHandlers.BAD_ARG);
        trial.enter("NUM:7");
        trial.same("full before bad kind", trial.x.token(0, 0, 0, 0), EffectHandlers.FULL);
        trial.same("full before bad argument", trial.x.token(EffectHandlers.VAR, 8, 0, 0), EffectHandlers.FULL);
        trial.x.reset();
        trial.enter("ADD ADD ADD NUM:1 NUM:2 NUM:3 MUL NUM:4").compile(EffectHandlers.E_INCOMPLETE, 8);
        trial.x.reset();
        trial.enter("EMIT EMIT EMIT EMIT EMIT EMIT EMIT NUM:1").compile(EffectHandlers.E_NONE, 0);
        trial.same("refused before full", trial.x.token(0, 0, 0, 0), EffectHandlers.REFUSED);
        trial.done(1);
        trial.same("refused when done", trial.x.token(EffectHandlers.NUM, 0, 0, 0), EffectHandlers.REFUSED);
        trial.same("tokenCount()", trial.x.tokenCount(), 8);
        Trial short1 = Trial.ready("PERFORM:0 NUM:1").traps(EffectHandlers.TRAP_UNHANDLED, 0);
        short1.same("refused when trapped", short1.x.token(99, 0, 0, 0), EffectHandlers.REFUSED);
        short1.same("tokenCount()", short1.x.tokenCount(), 2);
    }

    private static void keepsTheError() {
        Trial trial = new Trial("keeps the error", 32, 16).enter("ADD NUM:1").compile(EffectHandlers.E_INCOMPLETE, 2);
        trial.enter("NUM:2").status(EffectHandlers.ST_EDITING);
        trial.same("errorCode()", trial.x.errorCode(), EffectHandlers.E_INCOMPLETE);
        trial.same("errorPos()", trial.x.errorPos(), 2);
        trial.same("bad kind", trial.x.token(0, 0, 0, 0), EffectHandlers.BAD_KIND);
        trial.same("bad argument", trial.x.token(EffectHandlers.HANDLE, 2, 0, 0), EffectHandlers.BAD_ARG);
        trial.same("errorCode()", trial.x.errorCode(), EffectHandlers.E_INCOMPLETE);
        trial.same("errorPos()", trial.x.errorPos(), 2);
        trial.compile(EffectHandlers.E_NONE, 0).done(3);
    }

    private static void readsKinds() {
        Trial trial = new Trial("kinds", 32, 16);
        trial.same("tokenKind(0)", trial.x.tokenKind(0), 0);
        trial.enter("ADD NUM:1 NUM:2");
        int[] due = {0, EffectHandlers.ADD, EffectHandlers.NUM, EffectHandlers.NUM, 0, 0};
        for (int i = -1; i <= 4; i++) {
            trial.same("tokenKind " + i, trial.x.tokenKind(i), due[i + 1]);
        }
        for (int i : new int[] {Integer.MIN_VALUE, -2, 31, 32, 33, Integer.MAX_VALUE}) {
            trial.same("tokenKind " + i, trial.x.tokenKind(i), 0);
        }
        trial.same("tokenCount()", trial.x.tokenCount(), 3);
        trial.compile(EffectHandlers.E_NONE, 0).done(3);
        trial.same("tokenKind(0) when done", trial.x.tokenKind(0), EffectHandlers.ADD);
        trial.same("tokenCount() when done", trial.x.tokenCount(), 3);
        trial.x.reset();
        trial.enter("NUM:1");
        trial.same("tokenKind(1) of the old program", trial.x.tokenKind(1), 0);
        Trial full = new Trial("32 tokens", 32, 16).enter("EMIT ".repeat(32));
        full.same("tokenKind(31)", full.x.tokenKind(31), EffectHandlers.EMIT);
        full.same("tokenKind(32)", full.x.tokenKind(32), 0);
    }
}
