import java.util.ArrayList;
import java.util.Arrays;
import java.util.List;
import java.util.Set;

/** The consequence in promise 7: the standard state handler behaves as one mutable cell. */
public final class StateHandlerTest {
    private static final int PROGRAMS = 60000;
    private static int deepest = 0;
    private static final int[] trapsSeen = new int[5];

    private final int[][] rows;
    private final int maxPerforms;
    private final List<Integer> emitted = new ArrayList<>();
    private int at = 1;
    private int cell;
    private int performs = 0;
    private int trapCode = EffectHandlers.TRAP_NONE;
    private int trapPos = -1;

    private StateHandlerTest(int[][] rows, int maxPerforms) {
        this.rows = rows;
        this.maxPerforms = maxPerforms;
    }

    public static void main(String[] args) {
        Dice dice = new Dice(11);
        Writer initial = new Writer(dice, 2, 3, false);
        Writer body = new Writer(dice, 2, 3, false);
        for (int i = 0; i < PROGRAMS && Due.allRight(); i++) {
            List<int[]> rows = new ArrayList<>();
            rows.add(new int[] {EffectHandlers.HANDLE, EffectHandlers.DEEP, 0, 0});
            rows.addAll(Arrays.asList(initial.write(1 + dice.roll(dice.oneIn(8) ? 19 : 3), Set.of())));
            rows.addAll(Arrays.asList(body.write(21 - rows.size(), Set.of(0, 1))));
            rows.addAll(Arrays.asList(handler(dice)));
            compare(rows.toArray(new int[0][]), 1 + dice.roll(16));
        }
        Due.holds("some run performs often, not only " + deepest, deepest >= 14);
        Due.holds("limit trap met", trapsSeen[EffectHandlers.TRAP_LIMIT] > 100);
        Due.holds("output trap met", trapsSeen[EffectHandlers.TRAP_OUTPUT] > 10);
        Due.end();
    }

    private static int[][] handler(Dice dice) {
        int x = dice.roll(8);
        int v = dice.roll(8);
        int q = (v + 1 + dice.roll(7)) % 8;
        int v2 = dice.roll(8);
        return Tokens.read("RETURN:" + x + "," + dice.roll(8) + " VAR:" + x
                + " CASE:0," + v + "," + q + " RESUME VAR:" + q + " VAR:" + q
                + " CASE:1," + v2 + "," + dice.roll(8) + " RESUME VAR:" + v2 + " NUM:0 END");
    }

    private static void compare(int[][] rows, int maxPerforms) {
        Trial trial = new Trial("limit " + maxPerforms + ": " + Tokens.write(rows), 32, maxPerforms);
        for (int[] row : rows) {
            trial.x.token(row[0], row[1], row[2], row[3]);
        }
        trial.compile(EffectHandlers.E_NONE, 0);
        StateHandlerTest due = new StateHandlerTest(rows, maxPerforms);
        due.cell = due.eval(new int[8], true);
        int value = due.eval(new int[8], true);
        boolean trapped = due.trapCode != EffectHandlers.TRAP_NONE;
        trapsSeen[due.trapCode]++;
        deepest = Math.max(deepest, due.performs);
        trial.x.run();
        trial.ended(trapped ? EffectHandlers.ST_TRAPPED : EffectHandlers.ST_DONE, trapped ? 0 : value, due.trapCode, due.trapPos);
        trial.emitted(due.emitted.stream().mapToInt(Integer::intValue).toArray());
        trial.counts(due.performs, due.performs);
    }

    /** Evaluates the E at `at` if it is live and nothing has trapped; passes it over otherwise. */
    private int eval(int[] env, boolean live) {
        int[] row = rows[at];
        int here = at;
        at++;
        switch (row[0]) {
            case EffectHandlers.NUM:
                return row[1];
            case EffectHandlers.VAR:
                return env[row[1]];
            case EffectHandlers.IF:
                boolean chosen = eval(env, live) != 0;
                int then = eval(env, live && chosen);
                int otherwise = eval(env, live && !chosen);
                return chosen ? then : otherwise;
            case EffectHandlers.LET:
                int[] inner = env.clone();
                inner[row[1]] = eval(env, live);
                return eval(inner, live);
            case EffectHandlers.EMIT:
                return emit(here, eval(env, live), live);
            case EffectHandlers.PERFORM:
                return perform(here, eval(env, live), live);
            default:
                int first = eval(env, live);
                int second = eval(env, live);
                return combine(row[0], first, second);
        }
    }

    private static int combine(int kind, int first, int second) {
        switch (kind) {
            case EffectHandlers.ADD:
                return first + second;
            case EffectHandlers.SUB:
                return first - second;
            case EffectHandlers.MUL:
                return first * second;
            case EffectHandlers.LT:
                return first < second ? 1 : 0;
            case EffectHandlers.EQ:
                return first == second ? 1 : 0;
            default:
                return second;
        }
    }

    private boolean goesOn(boolean live) {
        return live && trapCode == EffectHandlers.TRAP_NONE;
    }

    private int emit(int here, int value, boolean live) {
        if (goesOn(live) && emitted.size() == EffectHandlers.MAX_OUTPUT) {
            trapCode = EffectHandlers.TRAP_OUTPUT;
            trapPos = here;
        } else if (goesOn(live)) {
            emitted.add(value);
        }
        return value;
    }

    private int perform(int here, int value, boolean live) {
        if (goesOn(live) && performs == maxPerforms) {
            trapCode = EffectHandlers.TRAP_LIMIT;
            trapPos = here;
        }
        if (!goesOn(live)) {
            return 0;
        }
        performs++;
        if (rows[here][1] == 0) {
            return cell;
        }
        cell = value;
        return 0;
    }
}
