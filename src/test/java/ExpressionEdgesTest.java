/** The edges that "What it is" and "The language" name, a test for each sentence. */
public final class ExpressionEdgesTest {
    private static final int MIN = Integer.MIN_VALUE;
    private static final int MAX = Integer.MAX_VALUE;

    public static void main(String[] args) {
        Due.sentence("Arithmetic wraps around as Java int arithmetic does.", ExpressionEdgesTest::wrapsThroughARun);
        Due.sentence("A run ends with a final value, or with a trap code and the token position of the trap; in both cases "
                + "the values emitted so far are kept.", ExpressionEdgesTest::keepsTheEmitted);
        Due.sentence("Arguments that a kind does not list are ignored.", ExpressionEdgesTest::ignoresUnlisted);
        Due.sentence("NUM a: the literal a (any int).", ExpressionEdgesTest::anyLiteral);
        Due.sentence("VAR a: the value of variable a (0..7).", ExpressionEdgesTest::eightVariables);
        Due.sentence("ADD E E, SUB E E, MUL E E: sum, difference (first minus second), product, wrapping as Java int "
                + "arithmetic.", ExpressionEdgesTest::wraps);
        Due.sentence("LT E E: 1 if first < second (signed), else 0.", ExpressionEdgesTest::comparesSigned);
        Due.sentence("EQ E E: 1 if first == second, else 0.", ExpressionEdgesTest::tellsEqual);
        Due.sentence("IF E E E: if the first value != 0 then the second E, else the third E; only the chosen branch is "
                + "evaluated.", ExpressionEdgesTest::choosesByZero);
        Due.sentence("LET a E E: variable a (0..7) is bound to the first value within the second E; the value is that of "
                + "the second E.", ExpressionEdgesTest::bindsWithin);
        Due.sentence("PERFORM a E: performs operation a (0..7) with the value of E as argument.",
                ExpressionEdgesTest::eightOperations);
        Due.sentence("HANDLE a: a = DEEP (0) or SHALLOW (1).", ExpressionEdgesTest::twoModes);
        Due.sentence("RETURN a b: a = value variable, b = parameter variable (each 0..7).", ExpressionEdgesTest::returnVariables);
        Due.sentence("CASE a b c: a = operation, b = argument variable, c = parameter variable (each 0..7).",
                ExpressionEdgesTest::caseVariables);
        Due.sentence("HANDLE E E RETURN E { CASE E } END", ExpressionEdgesTest::noneToEightCases);
        Due.sentence("A program is exactly one E made of all the tokens, in order.", ExpressionEdgesTest::exactlyOne);
        Due.sentence("I and B see only the binders around the HANDLE.", ExpressionEdgesTest::seesOnlyAround);
        Due.sentence("The innermost binder of a number is the one used.", ExpressionEdgesTest::innermostBinder);
        Due.sentence("If both numbers of a RETURN are equal, that variable holds the value; if both variable numbers of a "
                + "CASE are equal, that variable holds the argument.", ExpressionEdgesTest::equalNumbers);
        Due.sentence("A RESUME belongs to the innermost CASE whose C contains it, at any depth (this includes the I, B and R "
                + "of nested HANDLEs).", ExpressionEdgesTest::resumeAtAnyDepth);
        Due.end();
    }

    private static void wrapsThroughARun() {
        // The value that wraps is a parameter, an argument and an output, not only an operand.
        Trial.ready("HANDLE:0 NUM:" + MAX + " PERFORM:0 NUM:1 RETURN:0,1 VAR:1 CASE:0,0,1 RESUME EMIT ADD VAR:1 VAR:0 NUM:0 END")
                .done(MIN).emitted(MIN);
        Trial.ready("LET:0 ADD NUM:" + MAX + " NUM:1 LT VAR:0 NUM:0").done(1);
        Trial.ready("SUB ADD NUM:" + MAX + " NUM:1 NUM:1").done(MAX);
    }

    private static void keepsTheEmitted() {
        Trial.ready("SEQ EMIT NUM:1 EMIT NUM:2").done(2).emitted(1, 2);
        Trial.ready("SEQ EMIT NUM:1 SEQ EMIT NUM:2 PERFORM:0 NUM:3").traps(EffectHandlers.TRAP_UNHANDLED, 6).emitted(1, 2);
    }

    private static void ignoresUnlisted() {
        for (int wild : new int[] {MIN, -1, 8, 18, MAX}) {
            String w = "" + wild;
            // All seventeen kinds; what a kind lists is as it must be, the rest is wild.
            Trial.ready(("LET:0,w,w NUM:3,w,w HANDLE:0,w,w NUM:5,w,w SEQ:w,w,w EMIT:w,w,w IF:w,w,w LT:w,w,w VAR:0,w,w NUM:4,w,w "
                    + "ADD:w,w,w NUM:1,w,w MUL:w,w,w NUM:2,w,w VAR:0,w,w NUM:0,w,w SUB:w,w,w PERFORM:0,w,w NUM:9,w,w EQ:w,w,w "
                    + "NUM:1,w,w NUM:1,w,w RETURN:1,2,w VAR:1,w,w CASE:0,3,4 RESUME:w,w,w VAR:4,w,w VAR:3,w,w END:w,w,w")
                    .replace("w", w)).done(8).emitted(7).counts(1, 1);
        }
    }

    private static void anyLiteral() {
        for (int number : new int[] {MIN, MIN + 1, -1, 0, 1, MAX - 1, MAX}) {
            Trial.ready("NUM:" + number).done(number);
            Trial.ready("EMIT NUM:" + number).done(number).emitted(number);
        }
    }

    private static String eightLets() {
        StringBuilder lets = new StringBuilder();
        for (int name = 0; name <= 7; name++) {
            lets.append("LET:").append(name).append(" NUM:").append(10 + name).append(' ');
        }
        return lets.toString();
    }

    private static void eightVariables() {
        for (int name = 0; name <= 7; name++) {
            Trial.ready(eightLets() + "VAR:" + name).done(10 + name);
        }
    }

    private static void wraps() {
        int[][] rows = {{EffectHandlers.ADD, MAX, 1, MIN}, {EffectHandlers.ADD, MIN, -1, MAX}, {EffectHandlers.ADD, MIN, MIN, 0},
            {EffectHandlers.ADD, MAX, MAX, -2}, {EffectHandlers.SUB, MIN, 1, MAX}, {EffectHandlers.SUB, 0, MIN, MIN},
            {EffectHandlers.SUB, MAX, -1, MIN}, {EffectHandlers.SUB, 3, 5, -2}, {EffectHandlers.SUB, 5, 3, 2},
            {EffectHandlers.MUL, MAX, 2, -2}, {EffectHandlers.MUL, MIN, -1, MIN}, {EffectHandlers.MUL, MIN, MIN, 0},
            {EffectHandlers.MUL, MAX, MAX, 1}, {EffectHandlers.MUL, 65536, 65536, 0}, {EffectHandlers.MUL, 46341, 46341, -2147479015}};
        for (int[] row : rows) {
            calculates(row[0], row[1], row[2], row[3]);
        }
    }

    private static void calculates(int kind, int first, int second, int due) {
        Trial trial = new Trial("kind " + kind + " of " + first + " and " + second, 8, 1);
        trial.x.token(kind, 0, 0, 0);
        trial.enter("NUM:" + first + " NUM:" + second).compile(EffectHandlers.E_NONE, 0).done(due);
    }

    private static void comparesSigned() {
        // MIN and MAX are those for which a difference would wrap; -1 is the one that is great without a sign.
        int[][] rows = {{MIN, MAX, 1}, {MAX, MIN, 0}, {MIN, MIN, 0}, {MAX, MAX, 0}, {MIN, 0, 1}, {0, MIN, 0}, {-1, 0, 1}, {0, -1, 0},
            {0, 0, 0}, {-1, MAX, 1}, {MAX, -1, 0}, {MIN, MIN + 1, 1}, {MAX, MAX - 1, 0}, {MAX - 1, MAX, 1}};
        for (int[] row : rows) {
            calculates(EffectHandlers.LT, row[0], row[1], row[2]);
        }
    }

    private static void tellsEqual() {
        int[][] rows = {{MIN, MIN, 1}, {MAX, MAX, 1}, {0, 0, 1}, {-1, -1, 1}, {MIN, MAX, 0}, {0, MIN, 0}, {MIN, 0, 0}, {-1, MAX, 0},
            {1, -1, 0}, {65536, 0, 0}, {256, 0, 0}};
        for (int[] row : rows) {
            calculates(EffectHandlers.EQ, row[0], row[1], row[2]);
        }
    }

    private static void choosesByZero() {
        for (int other : new int[] {MIN, -1, 1, 2, 65536, MAX}) {
            Trial.ready("IF NUM:" + other + " NUM:10 NUM:20").done(10);
            Trial.ready("IF NUM:" + other + " EMIT NUM:10 EMIT NUM:20").done(10).emitted(10);
            Trial.ready("IF NUM:" + other + " NUM:10 PERFORM:0 EMIT NUM:20").done(10).emitted().counts(0, 0);
        }
        Trial.ready("IF NUM:0 NUM:10 NUM:20").done(20);
        Trial.ready("IF NUM:0 EMIT NUM:10 EMIT NUM:20").done(20).emitted(20);
        Trial.ready("IF NUM:0 PERFORM:0 EMIT NUM:10 NUM:20").done(20).emitted().counts(0, 0);
        Trial.ready("IF ADD NUM:" + MIN + " NUM:" + MIN + " NUM:10 NUM:20").done(20);
    }

    private static void bindsWithin() {
        for (int name = 0; name <= 7; name++) {
            Trial.ready("LET:" + name + " NUM:5 VAR:" + name).done(5);
            Trial.ready("LET:" + name + " NUM:5 NUM:6").done(6);
            new Trial("first E", 32, 16).enter("LET:" + name + " VAR:" + name + " NUM:6").compile(EffectHandlers.E_UNBOUND, 1);
            new Trial("behind", 32, 16).enter("ADD LET:" + name + " NUM:5 NUM:6 VAR:" + name).compile(EffectHandlers.E_UNBOUND, 4);
        }
    }

    private static String eightCases() {
        StringBuilder cases = new StringBuilder();
        for (int operation = 0; operation <= 7; operation++) {
            cases.append("CASE:").append(operation).append(",2,3 ADD NUM:").append(100 * operation).append(" VAR:2 ");
        }
        return cases.toString();
    }

    private static void eightOperations() {
        // Eight clauses of four tokens do not fit into 32 tokens, so each operation meets the other ones in halves.
        String[] cases = eightCases().split("(?=CASE:4)");
        for (int operation = 0; operation <= 7; operation++) {
            String handle = "HANDLE:0 NUM:0 PERFORM:" + operation + " NUM:7 RETURN:0,1 NUM:-1 ";
            Trial.ready(handle + cases[operation / 4] + "END").done(100 * operation + 7).counts(1, 0);
            Trial.ready(handle + cases[1 - operation / 4] + "END").traps(EffectHandlers.TRAP_UNHANDLED, 2).counts(1, 0);
        }
    }

    private static void twoModes() {
        String rest = " NUM:5 ADD PERFORM:0 NUM:1 PERFORM:0 NUM:2 RETURN:0,1 ADD NUM:100 VAR:0 CASE:0,0,1 RESUME NUM:0 VAR:0 END";
        Trial.ready("HANDLE:" + EffectHandlers.DEEP + rest).done(103).counts(2, 2);
        Trial.ready("HANDLE:" + EffectHandlers.SHALLOW + rest).traps(EffectHandlers.TRAP_UNHANDLED, 5).counts(2, 1);
        new Trial("modes", 8, 1).refuses(EffectHandlers.BAD_ARG, EffectHandlers.HANDLE, -1, 0, 0)
                .refuses(EffectHandlers.BAD_ARG, EffectHandlers.HANDLE, 2, 0, 0);
    }

    private static void returnVariables() {
        for (int one = 0; one <= 7; one++) {
            int other = 7 - one;
            Trial.ready("HANDLE:0 NUM:4 NUM:50 RETURN:" + one + "," + other + " SUB VAR:" + one + " VAR:" + other + " END").done(46);
        }
    }

    private static void caseVariables() {
        for (int one = 0; one <= 7; one++) {
            int other = 7 - one;
            Trial.ready("HANDLE:0 NUM:4 PERFORM:" + one + " NUM:50 RETURN:0,1 NUM:-1 CASE:" + one + "," + one + "," + other
                    + " SUB VAR:" + one + " VAR:" + other + " END").done(46);
        }
    }

    private static void noneToEightCases() {
        Trial.ready("HANDLE:0 NUM:0 NUM:7 RETURN:0,1 VAR:0 END").done(7);
        Trial.ready("HANDLE:0 NUM:0 PERFORM:0 NUM:7 RETURN:0,1 VAR:0 END").traps(EffectHandlers.TRAP_UNHANDLED, 2);
        StringBuilder cases = new StringBuilder();
        for (int operation = 7; operation >= 0; operation--) {
            cases.append("CASE:").append(operation).append(",2,3 NUM:").append(60 + operation).append(' ');
        }
        for (int operation = 0; operation <= 7; operation++) {
            Trial.ready("HANDLE:1 NUM:0 PERFORM:" + operation + " NUM:7 RETURN:0,1 VAR:0 " + cases + "END").done(60 + operation);
        }
    }

    private static void exactlyOne() {
        new Trial("no token", 32, 16).compile(EffectHandlers.E_INCOMPLETE, 0);
        Trial.ready("NUM:6").done(6);
        new Trial("two", 32, 16).enter("NUM:6 NUM:6").compile(EffectHandlers.E_TRAILING, 1);
        // 32 tokens, which is all that any object holds: 15 sums of 16 numbers under one EMIT.
        Trial.ready("EMIT " + "ADD ".repeat(15) + "NUM:1 ".repeat(16)).holdsTokens(32).done(16).emitted(16);
    }

    private static void seesOnlyAround() {
        for (String mode : new String[] {"HANDLE:0 ", "HANDLE:1 "}) {
            String clauses = "RETURN:0,1 VAR:0 CASE:0,2,3 VAR:2 END";
            for (int name = 0; name <= 3; name++) {
                new Trial("I", 32, 16).enter(mode + "VAR:" + name + " NUM:1 " + clauses).compile(EffectHandlers.E_UNBOUND, 1);
                new Trial("B", 32, 16).enter(mode + "NUM:1 VAR:" + name + " " + clauses).compile(EffectHandlers.E_UNBOUND, 2);
                Trial.ready("LET:" + name + " NUM:44 " + mode + "NUM:1 VAR:" + name + " " + clauses).done(44);
                Trial.ready("LET:" + name + " NUM:44 " + mode + "EMIT VAR:" + name + " NUM:1 " + clauses).done(1).emitted(44);
            }
        }
    }

    private static void innermostBinder() {
        for (int name = 0; name <= 7; name++) {
            String v = " VAR:" + name;
            String bind = "LET:" + name;
            Trial.ready(bind + " NUM:1 " + bind + " NUM:2 " + bind + " NUM:3" + v).done(3);
            Trial.ready(bind + " NUM:1 ADD MUL NUM:10 " + bind + " NUM:2" + v + v).done(21);
            Trial.ready(bind + " NUM:1 HANDLE:0 NUM:2 NUM:3 RETURN:" + name + "," + (name + 1) % 8 + v + " END").done(3);
            Trial.ready(bind + " NUM:1 HANDLE:0 NUM:2 PERFORM:0 NUM:3 RETURN:0,0 NUM:9 CASE:0," + (name + 1) % 8 + "," + name + v
                    + " END").done(2);
            Trial.ready("HANDLE:0 NUM:2 NUM:3 RETURN:" + name + "," + name + " " + bind + " NUM:8" + v + " END").done(8);
        }
    }

    private static void equalNumbers() {
        for (int name = 0; name <= 7; name++) {
            String both = name + "," + name;
            for (String mode : new String[] {"HANDLE:0 ", "HANDLE:1 "}) {
                Trial.ready(mode + "NUM:4 NUM:5 RETURN:" + both + " VAR:" + name + " END").done(5);
                Trial.ready(mode + "NUM:4 PERFORM:0 NUM:5 RETURN:" + both + " NUM:-1 CASE:0," + both + " VAR:" + name + " END").done(5);
            }
        }
    }

    private static void resumeAtAnyDepth() {
        String outer = "HANDLE:0 NUM:0 MUL NUM:2 PERFORM:0 NUM:1 RETURN:0,1 VAR:0 CASE:0,0,1 ";
        String inner = "HANDLE:0 NUM:3 NUM:4 RETURN:2,3 ";
        Trial.ready(outer + "RESUME NUM:0 NUM:21 END").done(42).counts(1, 1);
        Trial.ready(outer + "HANDLE:0 RESUME NUM:0 NUM:21 NUM:4 RETURN:2,3 VAR:3 END END").done(42).counts(1, 1);
        Trial.ready(outer + "HANDLE:0 NUM:3 RESUME NUM:0 NUM:21 RETURN:2,3 VAR:2 END END").done(42).counts(1, 1);
        Trial.ready(outer + inner + "RESUME NUM:0 NUM:21 END END").done(42).counts(1, 1);
        Trial.ready(outer + inner + inner + "RESUME NUM:0 NUM:21 END END END").done(42).counts(1, 1);
        Trial.ready(outer + "EMIT EMIT EMIT LET:0 NUM:1 IF VAR:0 ADD NUM:0 RESUME NUM:0 NUM:21 NUM:0 END").done(42).counts(1, 1);
        // The innermost of two: the inner clause gives 5 back to the inner PERFORM, and the outer one stays unresumed.
        Trial.ready(outer + "HANDLE:0 NUM:3 ADD NUM:1 PERFORM:1 NUM:6 RETURN:2,3 VAR:2 CASE:1,2,3 RESUME NUM:0 NUM:5 END END")
                .done(6).counts(2, 1);
    }
}
