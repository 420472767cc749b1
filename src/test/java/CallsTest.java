import java.util.ArrayList;
import java.util.Arrays;
import java.util.List;
import java.util.Set;

/** All promises on runs of calls in any order: after each call, every reading method against a plain account of the state. */
public final class CallsTest {
    private static final int RUNS = 6000;
    private static final int CALLS = 90;
    private static final int[] WILD = {Integer.MIN_VALUE, -2, -1, 0, 1, 2, 7, 8, 9, 17, 18, 31, 32, 33, Integer.MAX_VALUE};
    // How many of its arguments a kind limits, from a on.
    private static final int[] RANGED = {0, 0, 1, 0, 0, 0, 0, 0, 0, 1, 0, 0, 1, 1, 2, 3, 0, 0};
    private static final int[] answersSeen = new int[4];
    private static final int[] statesSeen = new int[4];

    private final EffectHandlers x;
    private final Trial trial;
    private final int maxTokens;
    private final int maxPerforms;
    private final Dice dice;
    private final List<int[]> rows = new ArrayList<>();
    private final List<int[]> plan = new ArrayList<>();
    private int status = EffectHandlers.ST_EDITING;
    private int errorCode = 0;
    private int errorPos = 0;
    private Model model;
    private boolean ran = false;

    private CallsTest(Dice dice) {
        this.dice = dice;
        int tokens = dice.oneIn(2) ? 32 : wild();
        int performs = dice.oneIn(2) ? 16 : wild();
        maxTokens = Math.max(8, Math.min(32, tokens));
        maxPerforms = Math.max(1, Math.min(16, performs));
        trial = new Trial("limits " + tokens + " and " + performs, tokens, performs);
        x = trial.x;
    }

    public static void main(String[] args) {
        Dice dice = new Dice(23);
        for (int i = 0; i < RUNS && Due.allRight(); i++) {
            new CallsTest(dice).makeCalls();
        }
        for (int i = 0; i < 4; i++) {
            Due.holds("answer " + (-1 - i) + " was met often: " + answersSeen[i], answersSeen[i] > 1000);
            Due.holds("status " + i + " was met often: " + statesSeen[i], statesSeen[i] > 1000);
        }
        Due.end();
    }

    private int wild() {
        return WILD[dice.roll(WILD.length)];
    }

    private void makeCalls() {
        for (int i = 0; i < CALLS; i++) {
            makeOne();
            statesSeen[status]++;
            Due.holds("after this call the state is as due: " + Arrays.toString(trial.readings()) + Arrays.toString(due()),
                    Arrays.equals(trial.readings(), due()));
        }
    }

    private void makeOne() {
        int die = dice.roll(30);
        if (die == 0) {
            reset();
        } else if (die <= 2) {
            compile();
        } else if (die <= 4) {
            run();
        } else if (die <= 8) {
            token(dice.oneIn(2) ? wild() : 1 + dice.roll(17), wild(), wild(), wild());
        } else if (plan.isEmpty() && !rows.isEmpty() && status == EffectHandlers.ST_EDITING) {
            compile();
            planOther();
        } else {
            planned();
        }
    }

    private void planOther() {
        if (status == EffectHandlers.ST_EDITING && dice.oneIn(2)) {
            reset();
        }
    }

    /** The next token of a program that was thought out whole, so that many of them are entered to the end. */
    private void planned() {
        if (plan.isEmpty()) {
            plan.addAll(Arrays.asList(new Writer(dice, 2, 3, true).write(dice.oneIn(8) ? 32 : maxTokens, Set.of())));
        }
        int[] row = plan.remove(0);
        token(row[0], row[1], row[2], row[3]);
    }

    private void reset() {
        x.reset();
        rows.clear();
        plan.clear();
        status = EffectHandlers.ST_EDITING;
        errorCode = 0;
        errorPos = 0;
        ran = false;
    }

    private void token(int kind, int a, int b, int c) {
        int due = refusal(kind, a, b, c);
        if (due == 0) {
            rows.add(new int[] {kind, a, b, c});
            due = rows.size();
        } else {
            answersSeen[-1 - due]++;
        }
        trial.same("token(" + kind + ", " + a + ", " + b + ", " + c + ")", x.token(kind, a, b, c), due);
    }

    private int refusal(int kind, int a, int b, int c) {
        if (status != EffectHandlers.ST_EDITING) {
            return EffectHandlers.REFUSED;
        }
        if (rows.size() == maxTokens) {
            return EffectHandlers.FULL;
        }
        if (kind < 1 || kind > 17) {
            return EffectHandlers.BAD_KIND;
        }
        int most = kind == EffectHandlers.HANDLE ? 1 : 7;
        int[] given = {a, b, c};
        for (int i = 0; i < RANGED[kind]; i++) {
            if (given[i] < 0 || given[i] > most) {
                return EffectHandlers.BAD_ARG;
            }
        }
        return 0;
    }

    private void compile() {
        int due = EffectHandlers.REFUSED;
        if (status == EffectHandlers.ST_EDITING) {
            model = new Model(rows.toArray(new int[0][]));
            errorCode = model.errorCode;
            errorPos = model.errorPos;
            status = errorCode == EffectHandlers.E_NONE ? EffectHandlers.ST_READY : EffectHandlers.ST_EDITING;
            due = errorCode;
        }
        trial.same("compile()", x.compile(), due);
    }

    private void run() {
        int due = EffectHandlers.REFUSED;
        if (status != EffectHandlers.ST_EDITING) {
            model.run(maxPerforms);
            ran = true;
            status = model.status;
            due = status;
        }
        trial.same("run()", x.run(), due);
    }

    /** What Trial.readings must give. */
    private int[] due() {
        int[] readings = new int[90];
        int[] first = {rows.size(), errorCode, errorPos, status, ran ? model.result : 0, ran ? model.trapCode : 0,
            ran ? model.trapPos : -1, ran ? model.emitted.size() : 0, ran ? model.performs : 0, ran ? model.resumes : 0};
        System.arraycopy(first, 0, readings, 0, first.length);
        for (int i = 0; i < rows.size(); i++) {
            readings[12 + i] = rows.get(i)[0];
        }
        for (int i = 0; ran && i < model.emitted.size(); i++) {
            readings[52 + i] = model.emitted.get(i);
        }
        return readings;
    }
}
