import java.util.Arrays;
import java.util.function.IntSupplier;

/** One object under test, with the answers due from it. */
final class Trial {
    private static final int FAR = 40;

    final EffectHandlers x;
    private final String name;

    Trial(String name, int maxTokens, int maxPerforms) {
        this.name = name;
        this.x = new EffectHandlers(maxTokens, maxPerforms);
    }

    /** A new object that holds the program and has compiled it. */
    static Trial ready(String program) {
        return ready(program, 16);
    }

    static Trial ready(String program, int maxPerforms) {
        Trial trial = new Trial(program, 32, maxPerforms);
        return trial.enter(program).compile(EffectHandlers.E_NONE, 0);
    }

    Trial enter(String program) {
        for (int[] t : Tokens.read(program)) {
            int before = x.tokenCount();
            same("token " + t[0], x.token(t[0], t[1], t[2], t[3]), before + 1);
            same("tokenKind", x.tokenKind(before), t[0]);
        }
        return this;
    }

    Trial compile(int code, int pos) {
        same("compile()", x.compile(), code);
        same("errorCode()", x.errorCode(), code);
        same("errorPos()", x.errorPos(), pos);
        return status(code == EffectHandlers.E_NONE ? EffectHandlers.ST_READY : EffectHandlers.ST_EDITING);
    }

    Trial status(int due) {
        same("status()", x.status(), due);
        return this;
    }

    Trial done(int result) {
        same("run()", x.run(), EffectHandlers.ST_DONE);
        return ended(EffectHandlers.ST_DONE, result, EffectHandlers.TRAP_NONE, -1);
    }

    Trial traps(int code, int pos) {
        same("run()", x.run(), EffectHandlers.ST_TRAPPED);
        return ended(EffectHandlers.ST_TRAPPED, 0, code, pos);
    }

    Trial ended(int status, int result, int trapCode, int trapPos) {
        status(status);
        same("result()", x.result(), result);
        same("trapCode()", x.trapCode(), trapCode);
        same("trapPos()", x.trapPos(), trapPos);
        return this;
    }

    Trial emitted(int... values) {
        same("outputCount()", x.outputCount(), values.length);
        for (int i = 0; i < values.length; i++) {
            same("an output", x.output(i), values[i]);
        }
        same("output behind the last", x.output(values.length), 0);
        same("output(-1)", x.output(-1), 0);
        same("output(MIN)", x.output(Integer.MIN_VALUE), 0);
        same("output(MAX)", x.output(Integer.MAX_VALUE), 0);
        return this;
    }

    Trial counts(int performs, int resumes) {
        same("performCount()", x.performCount(), performs);
        same("resumeCount()", x.resumeCount(), resumes);
        return this;
    }

    /** The object is as reset leaves it. */
    Trial fresh() {
        same("tokenCount()", x.tokenCount(), 0);
        same("tokenKind(0)", x.tokenKind(0), 0);
        same("errorCode()", x.errorCode(), 0);
        same("errorPos()", x.errorPos(), 0);
        return notRun(EffectHandlers.ST_EDITING);
    }

    Trial notRun(int status) {
        return ended(status, 0, EffectHandlers.TRAP_NONE, -1).emitted().counts(0, 0);
    }

    /** The call gives this answer, and no reading method answers anything else after it than before. */
    Trial unchangedBy(String call, IntSupplier made, int answer) {
        int[] before = readings();
        same(call, made.getAsInt(), answer);
        int[] after = readings();
        Due.holds(name + " | unchanged by " + call + ": " + Arrays.toString(before) + Arrays.toString(after),
                Arrays.equals(before, after));
        return this;
    }

    /** What every reading method answers, with indices from below 0 to above every capacity. */
    int[] readings() {
        int[] plain = {x.tokenCount(), x.errorCode(), x.errorPos(), x.status(), x.result(), x.trapCode(), x.trapPos(),
            x.outputCount(), x.performCount(), x.resumeCount()};
        int[] all = Arrays.copyOf(plain, plain.length + 2 * FAR);
        for (int i = 0; i < FAR; i++) {
            all[plain.length + i] = x.tokenKind(i - 2);
            all[plain.length + FAR + i] = x.output(i - 2);
        }
        return all;
    }

    /** A token that is refused with this answer and leaves everything as it was. */
    Trial refuses(int answer, int kind, int a, int b, int c) {
        return unchangedBy("token(" + kind + ", " + a + ", " + b + ", " + c + ")", () -> x.token(kind, a, b, c), answer);
    }

    Trial holdsTokens(int due) {
        return same("tokenCount()", x.tokenCount(), due);
    }

    Trial error(int code, int pos) {
        same("errorCode()", x.errorCode(), code);
        return same("errorPos()", x.errorPos(), pos);
    }

    Trial reset() {
        x.reset();
        return this;
    }

    Trial same(String call, long got, long want) {
        if (got != want) {
            Due.same(name + " | " + call, got, want);
        }
        return this;
    }
}
