import java.util.Arrays;
import java.util.List;

/** The edges that promises 5 and 6 name, a test for each sentence. */
public final class CompileEdgesTest {
    private static final String[] EVERY_KIND = {"NUM:0", "VAR:0", "ADD", "SUB", "MUL", "LT", "EQ", "IF", "LET:0", "SEQ", "EMIT",
        "PERFORM:0", "RESUME", "HANDLE:0", "RETURN:0,0", "CASE:7,0,0", "END"};
    private static final List<String> CLAUSE_KINDS = List.of("RETURN:0,0", "CASE:7,0,0", "END");
    private static final String HANDLE = "HANDLE:0 NUM:1 NUM:2 RETURN:0,1 NUM:3 ";
    private static final String LONG = "LET:0 NUM:1 HANDLE:0 VAR:0 IF LT PERFORM:0 VAR:0 NUM:3 SEQ EMIT NUM:4 PERFORM:1 NUM:5 SUB VAR:0 "
            + "NUM:6 RETURN:1,2 ADD VAR:0 MUL VAR:1 VAR:2 CASE:0,3,4 RESUME VAR:3 VAR:4 CASE:1,5,6 EQ VAR:5 VAR:6 END";

    public static void main(String[] args) {
        Due.sentence("If status() != ST_EDITING, compile() answers REFUSED and changes nothing.", CompileEdgesTest::refused);
        Due.sentence("Otherwise the tokens are examined in index order i = 0, 1, .... At each token the first check that fails gives "
                + "the error at position i, and the scan stops:", CompileEdgesTest::firstCheckCounts);
        Due.sentence("1. the tokens before i already form one complete E: E_TRAILING.", CompileEdgesTest::trailing);
        Due.sentence("2. the kind is not allowed where the grammar stands: E_UNEXPECTED.", CompileEdgesTest::unexpected);
        Due.sentence("Where an E must start, the kinds allowed are NUM VAR ADD SUB MUL LT EQ IF LET SEQ EMIT PERFORM RESUME HANDLE.",
                CompileEdgesTest::whereAnExpressionStarts);
        Due.sentence("After a HANDLE's B, only RETURN is allowed.", CompileEdgesTest::afterTheBody);
        Due.sentence("After a HANDLE's R or after a clause body C, only CASE or END.", CompileEdgesTest::afterAClause);
        Due.sentence("3. VAR a with no binder of a around it (by the scope rules above): E_UNBOUND.", CompileEdgesTest::unbound);
        Due.sentence("4. RESUME that is not inside the C of any CASE: E_RESUME_OUTSIDE.", CompileEdgesTest::resumeOutside);
        Due.sentence("5. CASE whose operation equals that of an earlier CASE of the same HANDLE: E_DUP_CASE.",
                CompileEdgesTest::duplicateCase);
        Due.sentence("If no token fails but the program is not complete (this includes the case of no tokens), the error is "
                + "E_INCOMPLETE at position tokenCount().", CompileEdgesTest::incomplete);
        Due.sentence("On an error: errorCode and errorPos are set, status stays ST_EDITING, the tokens are kept, and more tokens may "
                + "be appended; compile may be called again and examines all tokens afresh.", CompileEdgesTest::goesOnAfterAnError);
        Due.sentence("On success: errorCode 0, errorPos 0, status ST_READY.", CompileEdgesTest::success);
        Due.sentence("The answer is the new errorCode() (E_NONE on success).", CompileEdgesTest::answersTheCode);
        Due.sentence("compile never changes the tokens, the output, the counts, result, trapCode or trapPos.",
                CompileEdgesTest::changesOnlyTheError);
        Due.sentence("errorCode() and errorPos() give the error code and position of the last compile since reset; 0 and 0 if there "
                + "was none (or if it succeeded).", CompileEdgesTest::lastCompile);
        Due.sentence("A refused compile and appended tokens leave them as they were.", CompileEdgesTest::keepsTheError);
        Due.sentence("They change nothing.", CompileEdgesTest::readingChangesNothing);
        Due.end();
    }

    private static Trial entered(String program) {
        return new Trial(program, 32, 16).enter(program);
    }

    private static void error(String program, int code, int pos) {
        entered(program).compile(code, pos);
    }

    /** All is well up to the end, where something is still missing. */
    private static void goesOn(String program) {
        error(program, EffectHandlers.E_INCOMPLETE, Tokens.read(program).length);
    }

    private static void refused() {
        for (Trial trial : States.compiled()) {
            trial.unchangedBy("compile()", trial.x::compile, EffectHandlers.REFUSED);
            trial.unchangedBy("compile() again", trial.x::compile, EffectHandlers.REFUSED);
            trial.x.run();
            int[] before = trial.readings();
            trial.unchangedBy("compile() after run", trial.x::compile, EffectHandlers.REFUSED);
            trial.x.run();
            Due.holds("runs as before the refused compile", Arrays.equals(before, trial.readings()));
        }
    }

    private static void firstCheckCounts() {
        // One token that fails two checks.
        for (String kind : EVERY_KIND) {
            error("NUM:0 " + kind, EffectHandlers.E_TRAILING, 1);
        }
        error("HANDLE:0 NUM:1 NUM:2 VAR:0", EffectHandlers.E_UNEXPECTED, 3);
        error("HANDLE:0 NUM:1 NUM:2 RESUME", EffectHandlers.E_UNEXPECTED, 3);
        error(HANDLE + "CASE:0,0,0 CASE:0,0,0", EffectHandlers.E_UNEXPECTED, 6);
        error(HANDLE + "CASE:0,0,0 NUM:1 CASE:1,0,0 CASE:0,0,0", EffectHandlers.E_UNEXPECTED, 8);
        // Two tokens that fail: the earlier one counts, whatever its check, and so does any before the missing end.
        error("ADD VAR:0 END", EffectHandlers.E_UNBOUND, 1);
        error("ADD RESUME VAR:0", EffectHandlers.E_RESUME_OUTSIDE, 1);
        error("ADD END VAR:0", EffectHandlers.E_UNEXPECTED, 1);
        error(HANDLE + "CASE:0,0,0 NUM:1 CASE:0,0,0 VAR:7", EffectHandlers.E_DUP_CASE, 7);
        error("NUM:1 NUM:2 ADD", EffectHandlers.E_TRAILING, 1);
        error("VAR:0", EffectHandlers.E_UNBOUND, 0);
    }

    private static void trailing() {
        error("NUM:1 NUM:2", EffectHandlers.E_TRAILING, 1);
        error("EMIT ".repeat(30) + "NUM:1 NUM:2", EffectHandlers.E_TRAILING, 31);
        error("NUM:1 ".repeat(32), EffectHandlers.E_TRAILING, 1);
        error(HANDLE + "END END", EffectHandlers.E_TRAILING, 6);
        error(HANDLE + "END CASE:0,0,0", EffectHandlers.E_TRAILING, 6);
        goesOn("ADD NUM:1");
        Trial.ready("ADD NUM:1 NUM:2").done(3);
    }

    private static void unexpected() {
        for (String kind : CLAUSE_KINDS) {
            error(kind, EffectHandlers.E_UNEXPECTED, 0);
            error("EMIT ".repeat(31) + kind, EffectHandlers.E_UNEXPECTED, 31);
        }
        error("HANDLE:0 NUM:1 NUM:2 NUM:3", EffectHandlers.E_UNEXPECTED, 3);
        error(HANDLE + "NUM:3", EffectHandlers.E_UNEXPECTED, 5);
        error(HANDLE + "CASE:0,0,0 NUM:3 NUM:4", EffectHandlers.E_UNEXPECTED, 7);
        error(HANDLE + "RETURN:0,0", EffectHandlers.E_UNEXPECTED, 5);
    }

    private static void whereAnExpressionStarts() {
        // In a C, where RESUME may stand and variable 0 is bound; behind each of these an E must start.
        String[] places = {"", "ADD ", "ADD NUM:1 ", "IF ", "IF NUM:1 ", "IF NUM:1 NUM:2 ", "LET:0 ", "LET:0 NUM:1 ", "SEQ ", "SEQ NUM:1 ",
            "EMIT ", "PERFORM:0 ", "RESUME ", "RESUME NUM:1 ", "HANDLE:1 ", "HANDLE:1 NUM:1 ", "HANDLE:1 NUM:1 NUM:2 RETURN:0,0 ",
            HANDLE + "CASE:1,0,0 ", HANDLE + "CASE:1,0,0 NUM:1 CASE:2,0,0 "};
        for (String place : places) {
            String start = HANDLE + "CASE:0,0,0 " + place;
            int pos = Tokens.read(start).length;
            for (String kind : EVERY_KIND) {
                if (CLAUSE_KINDS.contains(kind)) {
                    error(start + kind, EffectHandlers.E_UNEXPECTED, pos);
                } else {
                    goesOn(start + kind);
                }
            }
        }
    }

    private static void afterTheBody() {
        for (String body : new String[] {"NUM:2", "EMIT NUM:2", "ADD NUM:1 NUM:2", "IF NUM:1 NUM:2 NUM:3", HANDLE + "END"}) {
            String start = HANDLE + "CASE:0,0,0 HANDLE:1 NUM:1 " + body + " ";
            for (String kind : EVERY_KIND) {
                if (kind.startsWith("RETURN")) {
                    goesOn(start + kind);
                } else {
                    error(start + kind, EffectHandlers.E_UNEXPECTED, Tokens.read(start).length);
                }
            }
        }
    }

    private static void afterAClause() {
        for (String clauses : new String[] {"", "CASE:1,0,0 NUM:4 ", "CASE:1,0,0 RESUME NUM:4 VAR:0 CASE:2,0,0 EMIT NUM:1 "}) {
            String start = HANDLE + "CASE:0,0,0 " + HANDLE + clauses;
            for (String kind : EVERY_KIND) {
                if (kind.startsWith("CASE") || kind.equals("END")) {
                    goesOn(start + kind);
                } else {
                    error(start + kind, EffectHandlers.E_UNEXPECTED, Tokens.read(start).length);
                }
            }
        }
    }

    private static void unbound() {
        for (int name = 0; name <= 7; name++) {
            String v = "VAR:" + name;
            int other = (name + 1) % 8;
            error(v, EffectHandlers.E_UNBOUND, 0);
            error("LET:" + name + " " + v, EffectHandlers.E_UNBOUND, 1);
            goesOn("EMIT LET:" + name + " NUM:1 ADD " + v);
            error("ADD LET:" + name + " NUM:1 " + v + " " + v, EffectHandlers.E_UNBOUND, 4);
            error("LET:" + other + " NUM:1 " + v, EffectHandlers.E_UNBOUND, 2);
            error("EMIT ".repeat(31) + v, EffectHandlers.E_UNBOUND, 31);
            String returns = "HANDLE:0 NUM:1 NUM:2 RETURN:" + name + "," + name;
            goesOn(returns + " " + v);
            error(returns + " " + v + " CASE:0," + other + "," + other + " " + v, EffectHandlers.E_UNBOUND, 6);
            String cases = HANDLE.replace("0,1", other + "," + other) + "CASE:0," + name + "," + other;
            goesOn(cases + " " + v);
            error(cases + " " + v + " CASE:1," + other + "," + other + " " + v, EffectHandlers.E_UNBOUND, 8);
            error("ADD " + cases + " " + v + " END " + v, EffectHandlers.E_UNBOUND, 9);
        }
    }

    private static void resumeOutside() {
        error("RESUME", EffectHandlers.E_RESUME_OUTSIDE, 0);
        error("EMIT ".repeat(31) + "RESUME", EffectHandlers.E_RESUME_OUTSIDE, 31);
        // In the I, the B and the R of the HANDLE itself, and behind its END.
        error("HANDLE:0 RESUME", EffectHandlers.E_RESUME_OUTSIDE, 1);
        error("HANDLE:0 NUM:1 RESUME", EffectHandlers.E_RESUME_OUTSIDE, 2);
        error("HANDLE:0 NUM:1 NUM:2 RETURN:0,1 RESUME", EffectHandlers.E_RESUME_OUTSIDE, 4);
        error("ADD " + HANDLE + "CASE:0,0,0 RESUME NUM:1 NUM:2 END RESUME", EffectHandlers.E_RESUME_OUTSIDE, 11);
        // In an R behind a HANDLE with a CASE that is complete.
        error("HANDLE:0 NUM:1 " + HANDLE + "CASE:0,0,0 NUM:1 END RETURN:0,1 RESUME", EffectHandlers.E_RESUME_OUTSIDE, 11);
        goesOn(HANDLE + "CASE:0,0,0 RESUME");
        goesOn(HANDLE + "CASE:0,0,0 NUM:1 CASE:1,0,0 RESUME");
        goesOn(HANDLE + "CASE:0,0,0 HANDLE:0 NUM:1 NUM:2 RETURN:0,1 RESUME");
        goesOn(HANDLE + "CASE:0,0,0 " + HANDLE + "CASE:0,0,0 NUM:1 END CASE:1,0,0 RESUME");
    }

    private static void duplicateCase() {
        for (int operation = 0; operation <= 7; operation++) {
            String same = "CASE:" + operation;
            error(HANDLE + same + ",0,0 NUM:1 " + same + ",1,1", EffectHandlers.E_DUP_CASE, 7);
            error(HANDLE + same + ",0,0 NUM:1 CASE:" + (operation + 1) % 8 + ",0,0 NUM:2 " + same + ",0,0", EffectHandlers.E_DUP_CASE, 9);
            // Another HANDLE's CASE is not of the same HANDLE: inside a clause, inside the body, and beside.
            goesOn(HANDLE + same + ",0,0 " + HANDLE + same + ",0,0");
            goesOn("HANDLE:0 NUM:1 " + HANDLE + same + ",0,0 NUM:1 END RETURN:0,1 NUM:2 " + same + ",0,0");
            goesOn("ADD " + HANDLE + same + ",0,0 NUM:1 END " + HANDLE + same + ",0,0");
            error(HANDLE + same + ",0,0 " + HANDLE + same + ",0,0 NUM:1 END " + same + ",0,0", EffectHandlers.E_DUP_CASE, 14);
            // The two HANDLEs stand next to each other, the one in the I of the other.
            for (int other = 0; other <= 7; other++) {
                goesOn("HANDLE:0 " + HANDLE + "CASE:" + other + ",0,0 NUM:1 END NUM:2 RETURN:0,1 NUM:3 " + same + ",0,0");
            }
        }
        // All eight are too few for a ninth.
        StringBuilder eight = new StringBuilder(HANDLE);
        for (int operation = 0; operation <= 7; operation++) {
            eight.append("CASE:").append(operation).append(",0,0 NUM:0 ");
        }
        goesOn(eight.toString());
        for (int operation = 0; operation <= 7; operation++) {
            error(eight + "CASE:" + operation + ",0,0", EffectHandlers.E_DUP_CASE, 21);
        }
    }

    private static void incomplete() {
        error("", EffectHandlers.E_INCOMPLETE, 0);
        for (int count = 1; count <= 32; count++) {
            error("EMIT ".repeat(count), EffectHandlers.E_INCOMPLETE, count);
        }
        new Trial("full at 8", 8, 1).enter("ADD ".repeat(8)).compile(EffectHandlers.E_INCOMPLETE, 8);
        // Every beginning of a program that uses every kind, and at last the whole.
        String[] words = LONG.split(" ");
        for (int count = 0; count < words.length; count++) {
            goesOn(String.join(" ", Arrays.copyOf(words, count)));
        }
        Trial.ready(LONG);
    }

    private static void goesOnAfterAnError() {
        // compile between any two tokens: nothing of the earlier scans is left, no CASE counts twice.
        Trial trial = new Trial("bit by bit", 32, 16);
        int held = 0;
        for (String word : LONG.split(" ")) {
            trial.compile(EffectHandlers.E_INCOMPLETE, held).compile(EffectHandlers.E_INCOMPLETE, held).holdsTokens(held);
            trial.enter(word);
            held++;
        }
        // PERFORM 0 gives the parameter 1 back, 1 < 3, 4 is emitted, and the clause of 1 compares 5 with the parameter 1.
        trial.compile(EffectHandlers.E_NONE, 0).done(0).emitted(4).counts(2, 1);
        Trial wrong = entered("ADD END").compile(EffectHandlers.E_UNEXPECTED, 1).holdsTokens(2);
        wrong.enter("NUM:1 NUM:2").compile(EffectHandlers.E_UNEXPECTED, 1).holdsTokens(4);
        // One error gives way to another, at an earlier place too.
        Trial other = entered("EMIT EMIT EMIT").compile(EffectHandlers.E_INCOMPLETE, 3);
        other.enter("NUM:1 NUM:1").compile(EffectHandlers.E_TRAILING, 4);
        // When full, the error can only be left by reset.
        Trial full = new Trial("full", 8, 1).enter("EMIT ".repeat(8)).compile(EffectHandlers.E_INCOMPLETE, 8);
        full.refuses(EffectHandlers.FULL, EffectHandlers.NUM, 1, 0, 0).compile(EffectHandlers.E_INCOMPLETE, 8);
        full.reset().enter("NUM:1").compile(EffectHandlers.E_NONE, 0).done(1);
    }

    private static void success() {
        entered("NUM:1").compile(EffectHandlers.E_NONE, 0).status(EffectHandlers.ST_READY);
        Trial trial = entered("EMIT").compile(EffectHandlers.E_INCOMPLETE, 1).enter("NUM:1");
        trial.compile(EffectHandlers.E_NONE, 0).status(EffectHandlers.ST_READY).error(0, 0);
        entered("EMIT ".repeat(31) + "NUM:1").compile(EffectHandlers.E_NONE, 0).status(EffectHandlers.ST_READY);
        new Trial("eight", 8, 1).enter(States.EIGHT).compile(EffectHandlers.E_NONE, 0).status(EffectHandlers.ST_READY);
    }

    private static void answersTheCode() {
        String[] programs = {"NUM:1", "NUM:1 NUM:2", "END", "VAR:0", "RESUME", HANDLE + "CASE:0,0,0 NUM:1 CASE:0,0,0", ""};
        for (int code = 0; code < programs.length; code++) {
            Trial trial = entered(programs[code]);
            trial.same("compile()", trial.x.compile(), code).same("errorCode()", trial.x.errorCode(), code);
        }
    }

    private static void changesOnlyTheError() {
        for (String program : new String[] {"", "NUM:1", "ADD", "NUM:1 NUM:2", "END", "VAR:0", "RESUME", LONG, States.ONCE}) {
            Trial trial = entered(program);
            int held = trial.x.tokenCount();
            int[] kinds = Arrays.copyOfRange(trial.readings(), 10, 50);
            trial.x.compile();
            trial.holdsTokens(held).notRun(trial.x.status());
            Due.holds("the kinds are kept", Arrays.equals(kinds, Arrays.copyOfRange(trial.readings(), 10, 50)));
        }
        // The arguments are kept too: three compiles, and then the run is the one of the tokens.
        entered("LET:7 NUM:-5").compile(EffectHandlers.E_INCOMPLETE, 2).compile(EffectHandlers.E_INCOMPLETE, 2).enter("VAR:7")
                .compile(EffectHandlers.E_NONE, 0).done(-5);
    }

    private static void lastCompile() {
        Trial trial = new Trial("last", 32, 16).error(0, 0).enter("END").error(0, 0);
        trial.compile(EffectHandlers.E_UNEXPECTED, 0).error(EffectHandlers.E_UNEXPECTED, 0);
        trial.reset().error(0, 0).enter("EMIT").error(0, 0).compile(EffectHandlers.E_INCOMPLETE, 1);
        trial.enter("NUM:1 NUM:2").compile(EffectHandlers.E_TRAILING, 2).reset().error(0, 0);
        trial.enter("EMIT").compile(EffectHandlers.E_INCOMPLETE, 1).enter("NUM:1").compile(EffectHandlers.E_NONE, 0).error(0, 0);
        trial.done(1).error(0, 0);
    }

    private static void keepsTheError() {
        for (Trial trial : States.compiled()) {
            trial.x.compile();
            trial.error(0, 0);
        }
        Trial trial = entered("EMIT EMIT").compile(EffectHandlers.E_INCOMPLETE, 2);
        for (int i = 0; i < 29; i++) {
            trial.enter("EMIT").error(EffectHandlers.E_INCOMPLETE, 2);
        }
        trial.refuses(EffectHandlers.BAD_KIND, 0, 0, 0, 0).refuses(EffectHandlers.BAD_ARG, EffectHandlers.VAR, 8, 0, 0);
        trial.enter("NUM:1").refuses(EffectHandlers.FULL, EffectHandlers.NUM, 0, 0, 0).error(EffectHandlers.E_INCOMPLETE, 2);
        trial.unchangedBy("run()", trial.x::run, EffectHandlers.REFUSED).error(EffectHandlers.E_INCOMPLETE, 2);
    }

    private static void readingChangesNothing() {
        for (Trial trial : States.all()) {
            trial.unchangedBy("errorCode()", trial.x::errorCode, trial.x.errorCode());
            trial.unchangedBy("errorPos()", trial.x::errorPos, trial.x.errorPos());
        }
    }
}
