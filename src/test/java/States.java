import java.util.ArrayList;
import java.util.List;

/** Objects in every state that the document tells apart, new ones with each call. */
final class States {
    static final String EIGHT = "EMIT EMIT EMIT EMIT EMIT EMIT EMIT NUM:1";
    static final String STATE = " RETURN:0,1 VAR:0 CASE:0,2,3 RESUME VAR:3 VAR:3 CASE:1,2,3 RESUME VAR:2 NUM:0 END";
    static final String ONCE = "HANDLE:0 NUM:9 EMIT PERFORM:0 NUM:1 RETURN:0,1 VAR:0 CASE:0,0,1 RESUME VAR:1 VAR:1 END";

    private States() {
    }

    /** Editing: without tokens, with some, with a program that is not compiled, full, and after errors. */
    static List<Trial> editing() {
        List<Trial> trials = new ArrayList<>();
        trials.add(new Trial("new", 32, 16));
        trials.add(new Trial("a part", 32, 16).enter("ADD NUM:1"));
        trials.add(new Trial("not compiled", 32, 16).enter("NUM:5"));
        trials.add(new Trial("full", 8, 16).enter(EIGHT));
        trials.add(new Trial("incomplete", 32, 16).enter("EMIT ".repeat(32)).compile(EffectHandlers.E_INCOMPLETE, 32));
        trials.add(new Trial("trailing", 8, 1).enter("NUM:1 ".repeat(8)).compile(EffectHandlers.E_TRAILING, 1));
        trials.add(new Trial("reset", 32, 16).enter(ONCE).compile(EffectHandlers.E_NONE, 0).done(9).reset());
        return trials;
    }

    /** Ready, done, and trapped in each of the four ways. */
    static List<Trial> compiled() {
        List<Trial> trials = new ArrayList<>();
        trials.add(Trial.ready("NUM:7"));
        trials.add(Trial.ready(ONCE));
        trials.add(Trial.ready(ONCE).done(9).emitted(9).counts(1, 1));
        trials.add(manyEmitted().done(5).counts(0, 0));
        trials.add(manyPerforms().done(3).counts(16, 16));
        trials.addAll(trapped());
        return trials;
    }

    static List<Trial> trapped() {
        List<Trial> trials = new ArrayList<>();
        trials.add(Trial.ready("SEQ EMIT NUM:4 PERFORM:3 NUM:1").traps(EffectHandlers.TRAP_UNHANDLED, 3).emitted(4).counts(1, 0));
        trials.add(Trial.ready("HANDLE:1 NUM:0 PERFORM:0 NUM:1 RETURN:0,1 VAR:0 CASE:0,0,1 ADD RESUME NUM:0 EMIT NUM:6 "
                + "RESUME NUM:0 NUM:2 END").traps(EffectHandlers.TRAP_RESUMED_TWICE, 12).emitted(6).counts(1, 1));
        trials.add(Trial.ready("HANDLE:0 NUM:0 PERFORM:1 PERFORM:0 NUM:1" + STATE, 1).traps(EffectHandlers.TRAP_LIMIT, 2).counts(1, 1));
        trials.add(Trial.ready("EMIT ".repeat(17) + "NUM:5").traps(EffectHandlers.TRAP_OUTPUT, 0));
        return trials;
    }

    static List<Trial> all() {
        List<Trial> trials = editing();
        trials.addAll(compiled());
        return trials;
    }

    static Trial manyEmitted() {
        return Trial.ready("EMIT ".repeat(16) + "NUM:5");
    }

    /** Sixteen performs, each resumed, which is all that any object allows. */
    static Trial manyPerforms() {
        return Trial.ready("HANDLE:0 NUM:0 " + "PERFORM:0 ".repeat(16) + "NUM:3 RETURN:0,1 VAR:0 CASE:0,0,1 RESUME NUM:0 VAR:0 END");
    }
}
