import java.util.Arrays;

/** The edges that promises 3 and 4 name, a test for each sentence. */
public final class TokenEdgesTest {
    private static final int MIN = Integer.MIN_VALUE;
    private static final int MAX = Integer.MAX_VALUE;
    private static final int ANY = -1;
    // For each kind the greatest values of a, b and c, or ANY where it lists none or no range.
    private static final int[][] RANGES = {{}, {ANY, ANY, ANY}, {7, ANY, ANY}, {ANY, ANY, ANY}, {ANY, ANY, ANY}, {ANY, ANY, ANY},
        {ANY, ANY, ANY}, {ANY, ANY, ANY}, {ANY, ANY, ANY}, {7, ANY, ANY}, {ANY, ANY, ANY}, {ANY, ANY, ANY}, {7, ANY, ANY},
        {1, ANY, ANY}, {7, 7, ANY}, {7, 7, 7}, {ANY, ANY, ANY}, {ANY, ANY, ANY}};

    public static void main(String[] args) {
        Due.sentence("The tests are made in this order, and the first that fails gives the answer; a refused call changes nothing "
                + "at all:", TokenEdgesTest::testsInOrder);
        Due.sentence("1. status() != ST_EDITING: REFUSED.", TokenEdgesTest::refused);
        Due.sentence("2. tokenCount() == maxTokens: FULL.", TokenEdgesTest::full);
        Due.sentence("3. kind is not in 1..17: BAD_KIND.", TokenEdgesTest::badKind);
        Due.sentence("4. an argument that the kind lists is out of its range: BAD_ARG.", TokenEdgesTest::badArgument);
        Due.sentence("The ranges are: VAR a, LET a, PERFORM a: 0..7; HANDLE a: 0..1; RETURN a and b: 0..7; CASE a, b and c: 0..7; "
                + "NUM a: any value.", TokenEdgesTest::ranges);
        Due.sentence("Arguments not listed for the kind are ignored whatever their value.", TokenEdgesTest::ignoresUnlisted);
        Due.sentence("Otherwise the token is appended at the index equal to the old tokenCount() (the count before the call), "
                + "errorCode and errorPos keep their values, status stays ST_EDITING, and the answer is the new tokenCount().",
                TokenEdgesTest::appends);
        Due.sentence("Appending never checks the grammar; that is left to compile().", TokenEdgesTest::checksNoGrammar);
        Due.sentence("tokenCount() is the number of tokens held (0..maxTokens).", TokenEdgesTest::counts);
        Due.sentence("tokenKind(i) is the kind of token i for 0 <= i < tokenCount(); for any other i (negative, equal to or above "
                + "tokenCount()) it is 0.", TokenEdgesTest::kinds);
        Due.sentence("Neither changes anything.", TokenEdgesTest::readingChangesNothing);
        Due.end();
    }

    private static void testsInOrder() {
        // Every later test fails too: the answer is that of the first.
        for (Trial trial : new Trial[] {readyAndFull(), readyAndFull().done(1)}) {
            trial.refuses(EffectHandlers.REFUSED, EffectHandlers.NUM, 0, 0, 0).refuses(EffectHandlers.REFUSED, 0, 0, 0, 0)
                    .refuses(EffectHandlers.REFUSED, EffectHandlers.VAR, 8, 0, 0);
        }
        for (Trial trial : new Trial[] {Trial.ready("NUM:1"), Trial.ready("NUM:1").done(1)}) {
            trial.refuses(EffectHandlers.REFUSED, 18, 0, 0, 0).refuses(EffectHandlers.REFUSED, EffectHandlers.CASE, 0, 0, -1);
        }
        Trial full = new Trial("full", 8, 1).enter("END ".repeat(8));
        full.refuses(EffectHandlers.FULL, 0, 0, 0, 0).refuses(EffectHandlers.FULL, EffectHandlers.VAR, 8, 0, 0)
                .refuses(EffectHandlers.FULL, EffectHandlers.NUM, 0, 0, 0);
        Trial open = new Trial("not full", 8, 1).enter("EMIT ".repeat(7));
        open.refuses(EffectHandlers.BAD_KIND, 0, -1, -1, -1).refuses(EffectHandlers.BAD_KIND, 18, 8, 8, 8)
                .refuses(EffectHandlers.BAD_ARG, EffectHandlers.VAR, 8, 0, 0);
        // Nothing of the refused calls is left in the place that the next token takes.
        open.enter("NUM:4").compile(EffectHandlers.E_NONE, 0).done(4).emitted(4, 4, 4, 4, 4, 4, 4);
    }

    private static Trial readyAndFull() {
        return new Trial("ready and full", 8, 1).enter(States.EIGHT).compile(EffectHandlers.E_NONE, 0);
    }

    private static void refused() {
        for (Trial trial : States.compiled()) {
            int held = trial.x.tokenCount();
            for (int kind = 1; kind <= 17; kind++) {
                trial.refuses(EffectHandlers.REFUSED, kind, 0, 0, 0);
            }
            trial.x.run();
            int[] before = trial.readings();
            trial.refuses(EffectHandlers.REFUSED, EffectHandlers.NUM, 99, 0, 0).holdsTokens(held);
            trial.x.run();
            Due.holds("the refused token is not run", Arrays.equals(before, trial.readings()));
        }
    }

    private static void full() {
        for (int most : new int[] {8, 9, 20, 31, 32}) {
            Trial trial = new Trial("full at " + most, most, 1).enter("EMIT ".repeat(most - 1)).enter("NUM:5");
            for (int kind = 1; kind <= 17; kind++) {
                trial.refuses(EffectHandlers.FULL, kind, 0, 0, 0);
            }
            trial.holdsTokens(most).compile(EffectHandlers.E_NONE, 0);
            trial.same("run()", trial.x.run(), most <= 17 ? EffectHandlers.ST_DONE : EffectHandlers.ST_TRAPPED);
        }
    }

    private static void badKind() {
        Trial trial = new Trial("bad kind", 32, 16).enter("ADD NUM:3");
        for (int kind : new int[] {MIN, -17, -1, 0, 18, 19, 17 + 256, 1 + 65536, MAX}) {
            trial.refuses(EffectHandlers.BAD_KIND, kind, 0, 0, 0);
        }
        trial.enter("NUM:4").compile(EffectHandlers.E_NONE, 0).done(7);
        Trial edges = new Trial("1 and 17", 32, 16);
        edges.same("token(1, ...)", edges.x.token(1, 0, 0, 0), 1).same("token(17, ...)", edges.x.token(17, 0, 0, 0), 2);
    }

    private static void badArgument() {
        Trial trial = new Trial("bad argument", 32, 16).enter("LET:7 NUM:3");
        trial.refuses(EffectHandlers.BAD_ARG, EffectHandlers.VAR, 8, 0, 0).refuses(EffectHandlers.BAD_ARG, EffectHandlers.LET, -1, 0, 0)
                .refuses(EffectHandlers.BAD_ARG, EffectHandlers.RETURN, 0, 8, 0).refuses(EffectHandlers.BAD_ARG, EffectHandlers.CASE, 0, 0, 8);
        // All of them wrong, and only the last one wrong, is the same.
        trial.refuses(EffectHandlers.BAD_ARG, EffectHandlers.CASE, MIN, MAX, -1).refuses(EffectHandlers.BAD_ARG, EffectHandlers.RETURN, -1, -1, 0);
        trial.enter("VAR:7").compile(EffectHandlers.E_NONE, 0).done(3);
    }

    private static int[] with(int place, int value) {
        int[] row = new int[3];
        row[place] = value;
        return row;
    }

    private static void ranges() {
        for (int kind = 1; kind <= 17; kind++) {
            for (int place = 0; place < 3; place++) {
                int greatest = RANGES[kind][place];
                Trial trial = new Trial("kind " + kind + " argument " + place, 32, 16);
                for (int value : new int[] {MIN, MIN + 7, -8, -1, greatest + 1, greatest + 2, 256, 65536, MAX}) {
                    int[] row = with(place, value);
                    if (greatest != ANY) {
                        trial.refuses(EffectHandlers.BAD_ARG, kind, row[0], row[1], row[2]);
                    }
                }
                for (int value = 0; value <= greatest; value++) {
                    int[] row = with(place, value);
                    trial.same("value " + value, trial.x.token(kind, row[0], row[1], row[2]), value + 1);
                }
            }
        }
        for (int number : new int[] {MIN, -1, 0, 8, MAX}) {
            Trial.ready("NUM:" + number).done(number);
        }
    }

    private static void ignoresUnlisted() {
        for (int wild : new int[] {MIN, -1, 2, 8, MAX}) {
            Trial trial = new Trial("unlisted " + wild, 32, 16);
            for (int kind = 1; kind <= 17; kind++) {
                int[] greatest = RANGES[kind];
                trial.same("kind " + kind, trial.x.token(kind, greatest[0] == ANY ? wild : 0, greatest[1] == ANY ? wild : 0,
                        greatest[2] == ANY ? wild : 0), kind);
            }
        }
    }

    private static void appends() {
        Trial trial = new Trial("appends", 32, 16).compile(EffectHandlers.E_INCOMPLETE, 0);
        for (int i = 0; i < 32; i++) {
            int kind = 1 + i % 17;
            trial.same("token", trial.x.token(kind, 0, 0, 0), i + 1).holdsTokens(i + 1).same("tokenKind", trial.x.tokenKind(i), kind);
            trial.error(EffectHandlers.E_INCOMPLETE, 0).status(EffectHandlers.ST_EDITING);
        }
        for (int i = 0; i < 32; i++) {
            trial.same("tokenKind " + i, trial.x.tokenKind(i), 1 + i % 17);
        }
        Trial other = new Trial("after another error", 32, 16).enter("ADD END").compile(EffectHandlers.E_UNEXPECTED, 1);
        other.enter("NUM:1 NUM:2").error(EffectHandlers.E_UNEXPECTED, 1).notRun(EffectHandlers.ST_EDITING).holdsTokens(4);
        // A token that the other tests refuse leaves the error as well.
        other.refuses(EffectHandlers.BAD_KIND, 0, 0, 0, 0).error(EffectHandlers.E_UNEXPECTED, 1);
    }

    private static void checksNoGrammar() {
        String[] wrong = {"END", "RETURN:0,0", "CASE:0,0,0", "VAR:0", "RESUME", "NUM:1 NUM:2", "NUM:1 END", "HANDLE:0 END",
            "HANDLE:0 NUM:1 NUM:2 RETURN:0,1 NUM:3 CASE:0,0,0 NUM:4 CASE:0,0,0"};
        int[] codes = {EffectHandlers.E_UNEXPECTED, EffectHandlers.E_UNEXPECTED, EffectHandlers.E_UNEXPECTED, EffectHandlers.E_UNBOUND,
            EffectHandlers.E_RESUME_OUTSIDE, EffectHandlers.E_TRAILING, EffectHandlers.E_TRAILING, EffectHandlers.E_UNEXPECTED,
            EffectHandlers.E_DUP_CASE};
        for (int i = 0; i < wrong.length; i++) {
            Trial trial = new Trial(wrong[i], 32, 16).enter(wrong[i]).error(EffectHandlers.E_NONE, 0).status(EffectHandlers.ST_EDITING);
            trial.compile(codes[i], Tokens.read(wrong[i]).length - 1);
        }
    }

    private static void counts() {
        for (int most : new int[] {8, 32}) {
            Trial trial = new Trial("count to " + most, most, 1).holdsTokens(0);
            for (int i = 1; i <= most; i++) {
                trial.enter("NUM:0").holdsTokens(i);
            }
            trial.refuses(EffectHandlers.FULL, EffectHandlers.NUM, 0, 0, 0).holdsTokens(most);
            trial.compile(EffectHandlers.E_TRAILING, 1).holdsTokens(most);
            trial.reset().holdsTokens(0);
        }
        Trial.ready("EMIT NUM:1").holdsTokens(2).done(1).holdsTokens(2);
    }

    private static void kinds() {
        for (int held : new int[] {0, 1, 7, 8, 31, 32}) {
            Trial trial = new Trial(held + " tokens", 32, 16).enter("EMIT ".repeat(held));
            for (int i : new int[] {MIN, MIN + 1, -32, -1, held, held + 1, 32, 33, 256, 65536, MAX}) {
                trial.same("tokenKind(" + i + ")", trial.x.tokenKind(i), 0);
            }
            for (int i = 0; i < held; i++) {
                trial.same("tokenKind(" + i + ")", trial.x.tokenKind(i), EffectHandlers.EMIT);
            }
        }
        // The tokens before a reset are not seen behind the new ones.
        Trial again = new Trial("after reset", 32, 16).enter("EMIT ".repeat(32)).reset();
        for (int i = 0; i < 32; i++) {
            again.same("tokenKind(" + i + ")", again.x.tokenKind(i), 0);
        }
        again.enter("NUM:1").same("tokenKind(0)", again.x.tokenKind(0), EffectHandlers.NUM).same("tokenKind(1)", again.x.tokenKind(1), 0);
    }

    private static void readingChangesNothing() {
        for (Trial trial : States.all()) {
            trial.unchangedBy("tokenCount()", trial.x::tokenCount, trial.x.tokenCount());
            for (int i : new int[] {MIN, -1, 32, MAX}) {
                trial.unchangedBy("tokenKind(" + i + ")", () -> trial.x.tokenKind(i), 0);
            }
            trial.unchangedBy("tokenKind(0)", () -> trial.x.tokenKind(0), trial.x.tokenKind(0));
        }
    }
}
