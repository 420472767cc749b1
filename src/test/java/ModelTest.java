import java.util.Arrays;
import java.util.Set;

/** Promises 5 to 10 on many programs: the program's answers against those of the model. */
public final class ModelTest {
    private static final int PROGRAMS = 100000;
    private static final int[] errorsSeen = new int[7];
    private static final int[] trapsSeen = new int[5];
    private static int deepestPerforms = 0;

    public static void main(String[] args) {
        Dice dice = new Dice(7);
        for (int i = 0; i < PROGRAMS && Due.allRight(); i++) {
            Writer writer = new Writer(dice, 1 + dice.roll(3), 1 + dice.roll(4), true);
            int[][] rows = writer.write(dice.oneIn(2) ? 32 : 8 + dice.roll(25), Set.of());
            compare(rows, dice.oneIn(2) ? 16 : 1 + dice.roll(16));
            compare(damaged(rows, dice), 16);
        }
        for (int i = 0; i < PROGRAMS && Due.allRight(); i++) {
            compare(thrown(dice), 16);
        }
        heavy();
        // A test that never meets an outcome does not test it.
        for (int code = 0; code < errorsSeen.length; code++) {
            Due.holds("error " + code + " was met often: " + errorsSeen[code], errorsSeen[code] > 50);
        }
        for (int code = 0; code < trapsSeen.length; code++) {
            Due.holds("trap " + code + " was met often: " + trapsSeen[code], trapsSeen[code] > 30);
        }
        Due.holds("some run performs 16 times, not only " + deepestPerforms, deepestPerforms == 16);
        Due.end();
    }

    /** All 32 tokens shared out between the performs and a clause that leaves much pending or bound at each of them. */
    private static void heavy() {
        String[] pending = {"ADD VAR:0 ", "LET:2 VAR:1 ", "LET:0 ADD VAR:0 VAR:1 ", "SEQ IF VAR:0 EMIT VAR:1 VAR:0 ", "PERFORM:2 ", "EMIT "};
        for (String part : pending) {
            int length = Tokens.read(part).length;
            for (int performs = 0; performs <= 17; performs++) {
                String clause = part.repeat((22 - performs) / length) + "RESUME VAR:1 VAR:0 ";
                compare(Tokens.read("HANDLE:0 NUM:1 " + "PERFORM:0 ".repeat(performs) + "NUM:3 RETURN:0,1 VAR:0 CASE:0,0,1 "
                        + clause + "END"), 16);
            }
        }
    }

    private static int[][] damaged(int[][] rows, Dice dice) {
        int[][] other = Arrays.copyOf(rows, Math.min(32, rows.length + dice.roll(2)));
        if (other.length > rows.length) {
            int place = dice.roll(other.length);
            System.arraycopy(rows, place, other, place + 1, rows.length - place);
            other[place] = thrownToken(dice);
        } else if (dice.oneIn(4)) {
            other = Arrays.copyOf(rows, dice.roll(rows.length));
        } else {
            other[dice.roll(other.length)] = thrownToken(dice);
        }
        return other;
    }

    private static int[][] thrown(Dice dice) {
        int[][] rows = new int[dice.roll(9)][];
        for (int i = 0; i < rows.length; i++) {
            rows[i] = thrownToken(dice);
        }
        return rows;
    }

    private static int[] thrownToken(Dice dice) {
        int kind = 1 + dice.roll(17);
        int values = kind == EffectHandlers.HANDLE ? 2 : 3;
        return new int[] {kind, dice.roll(values), dice.roll(3), dice.roll(3)};
    }

    private static void compare(int[][] rows, int maxPerforms) {
        Model model = new Model(rows);
        Trial trial = new Trial(Tokens.write(rows), 32, maxPerforms);
        for (int[] row : rows) {
            trial.x.token(row[0], row[1], row[2], row[3]);
        }
        trial.compile(model.errorCode, model.errorPos);
        errorsSeen[model.errorCode]++;
        if (model.errorCode != EffectHandlers.E_NONE) {
            return;
        }
        model.run(maxPerforms);
        trapsSeen[model.trapCode]++;
        deepestPerforms = Math.max(deepestPerforms, model.performs);
        int[] emitted = model.emitted.stream().mapToInt(Integer::intValue).toArray();
        for (int i = 0; i < 2; i++) {
            trial.same("run()", trial.x.run(), model.status);
            trial.ended(model.status, model.result, model.trapCode, model.trapPos);
            trial.emitted(emitted).counts(model.performs, model.resumes);
        }
    }
}
