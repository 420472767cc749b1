import java.util.ArrayList;
import java.util.HashMap;
import java.util.HashSet;
import java.util.List;
import java.util.Map;
import java.util.Set;
import java.util.function.IntFunction;

/** The document once more, in another way: a recursive parser and closures on a stack of objects. */
final class Model {
    private static final int MAX_PARTS = 3;

    private static final class Expr {
        int at;
        int kind;
        int a;
        int b;
        int c;
        final List<Expr> parts = new ArrayList<>();
        final List<Expr> cases = new ArrayList<>();
    }

    private static final class Fault extends RuntimeException {
        private static final long serialVersionUID = 1L;
        final int code;
        final int pos;

        Fault(int code, int pos) {
            this.code = code;
            this.pos = pos;
        }
    }

    private interface Step {
        Step go();
    }

    /** Either a pending expression (then) or a handler frame. */
    private static final class Item {
        IntFunction<Step> then;
        Expr handle;
        Map<Integer, Integer> env;
        Resumption owner;
        int parameter;
    }

    private static final class Resumption {
        List<Item> captured;
        Item frame;
        boolean used;
    }

    private final int[][] rows;
    private int at = 0;
    private Expr root;

    int errorCode;
    int errorPos;

    private int maxPerforms;
    private List<Item> stack;
    int status;
    int result;
    int trapCode;
    int trapPos;
    int performs;
    int resumes;
    final List<Integer> emitted = new ArrayList<>();

    Model(int[][] rows) {
        this.rows = rows;
        try {
            root = parse(Set.of(), false);
            if (at < rows.length) {
                throw new Fault(EffectHandlers.E_TRAILING, at);
            }
        } catch (Fault fault) {
            errorCode = fault.code;
            errorPos = fault.pos;
        }
    }

    private Expr take() {
        if (at == rows.length) {
            throw new Fault(EffectHandlers.E_INCOMPLETE, at);
        }
        Expr e = new Expr();
        e.at = at;
        e.kind = rows[at][0];
        e.a = rows[at][1];
        e.b = rows[at][2];
        e.c = rows[at][3];
        at++;
        return e;
    }

    private static Set<Integer> with(Set<Integer> scope, int... names) {
        Set<Integer> wider = new HashSet<>(scope);
        for (int name : names) {
            wider.add(name);
        }
        return wider;
    }

    private Expr parse(Set<Integer> scope, boolean inCase) {
        Expr e = take();
        switch (e.kind) {
            case EffectHandlers.NUM -> { }
            case EffectHandlers.VAR -> check(scope.contains(e.a), EffectHandlers.E_UNBOUND, e);
            case EffectHandlers.ADD, EffectHandlers.SUB, EffectHandlers.MUL, EffectHandlers.LT, EffectHandlers.EQ,
                EffectHandlers.SEQ -> parts(e, 2, scope, inCase);
            case EffectHandlers.IF -> parts(e, MAX_PARTS, scope, inCase);
            case EffectHandlers.EMIT, EffectHandlers.PERFORM -> parts(e, 1, scope, inCase);
            case EffectHandlers.LET -> {
                parts(e, 1, scope, inCase);
                parts(e, 1, with(scope, e.a), inCase);
            }
            case EffectHandlers.RESUME -> {
                check(inCase, EffectHandlers.E_RESUME_OUTSIDE, e);
                parts(e, 2, scope, inCase);
            }
            case EffectHandlers.HANDLE -> handle(e, scope, inCase);
            default -> throw new Fault(EffectHandlers.E_UNEXPECTED, e.at);
        }
        return e;
    }

    private void parts(Expr e, int count, Set<Integer> scope, boolean inCase) {
        for (int i = 0; i < count; i++) {
            e.parts.add(parse(scope, inCase));
        }
    }

    private static void check(boolean right, int code, Expr e) {
        if (!right) {
            throw new Fault(code, e.at);
        }
    }

    private void handle(Expr e, Set<Integer> scope, boolean inCase) {
        parts(e, 2, scope, inCase);
        Expr giveBack = take();
        check(giveBack.kind == EffectHandlers.RETURN, EffectHandlers.E_UNEXPECTED, giveBack);
        e.b = giveBack.a;
        e.c = giveBack.b;
        parts(e, 1, with(scope, e.b, e.c), inCase);
        while (true) {
            Expr clause = take();
            if (clause.kind == EffectHandlers.END) {
                return;
            }
            check(clause.kind == EffectHandlers.CASE, EffectHandlers.E_UNEXPECTED, clause);
            check(caseFor(e, clause.a) == null, EffectHandlers.E_DUP_CASE, clause);
            parts(clause, 1, with(scope, clause.b, clause.c), true);
            e.cases.add(clause);
        }
    }

    private static Expr caseFor(Expr handle, int operation) {
        for (Expr clause : handle.cases) {
            if (clause.a == operation) {
                return clause;
            }
        }
        return null;
    }

    void run(int limit) {
        maxPerforms = limit;
        status = EffectHandlers.ST_READY;
        result = 0;
        trapCode = EffectHandlers.TRAP_NONE;
        trapPos = -1;
        performs = 0;
        resumes = 0;
        emitted.clear();
        stack = new ArrayList<>();
        Step step = () -> eval(root, Map.of(), null);
        while (step != null) {
            step = step.go();
        }
    }

    private Step trap(int code, Expr e) {
        status = EffectHandlers.ST_TRAPPED;
        trapCode = code;
        trapPos = e.at;
        return null;
    }

    private Step give(int v) {
        if (stack.isEmpty()) {
            status = EffectHandlers.ST_DONE;
            result = v;
            return null;
        }
        Item item = stack.remove(stack.size() - 1);
        if (item.then != null) {
            return item.then.apply(v);
        }
        Map<Integer, Integer> env = bound(item.env, item.handle.c, item.parameter, item.handle.b, v);
        return () -> eval(item.handle.parts.get(2), env, item.owner);
    }

    /** The second name wins where both are the same. */
    private static Map<Integer, Integer> bound(Map<Integer, Integer> env, int one, int v, int other, int w) {
        Map<Integer, Integer> wider = new HashMap<>(env);
        wider.put(one, v);
        wider.put(other, w);
        return wider;
    }

    private Step part(Expr e, int i, Map<Integer, Integer> env, Resumption owner, IntFunction<Step> then) {
        Item item = new Item();
        item.then = then;
        stack.add(item);
        return () -> eval(e.parts.get(i), env, owner);
    }

    private Step eval(Expr e, Map<Integer, Integer> env, Resumption owner) {
        return switch (e.kind) {
            case EffectHandlers.NUM -> give(e.a);
            case EffectHandlers.VAR -> give(env.get(e.a));
            case EffectHandlers.IF -> part(e, 0, env, owner, v -> () -> eval(e.parts.get(v != 0 ? 1 : 2), env, owner));
            case EffectHandlers.LET ->
                part(e, 0, env, owner, v -> () -> eval(e.parts.get(1), bound(env, e.a, v, e.a, v), owner));
            case EffectHandlers.EMIT -> part(e, 0, env, owner, v -> emit(e, v));
            case EffectHandlers.PERFORM -> part(e, 0, env, owner, v -> perform(e, v));
            case EffectHandlers.HANDLE -> part(e, 0, env, owner, p -> {
                Item frame = new Item();
                frame.handle = e;
                frame.env = env;
                frame.owner = owner;
                frame.parameter = p;
                stack.add(frame);
                return () -> eval(e.parts.get(1), env, owner);
            });
            default -> part(e, 0, env, owner, v -> part(e, 1, env, owner, w -> both(e, v, w, owner)));
        };
    }

    private Step both(Expr e, int v, int w, Resumption owner) {
        return switch (e.kind) {
            case EffectHandlers.ADD -> give(v + w);
            case EffectHandlers.SUB -> give(v - w);
            case EffectHandlers.MUL -> give(v * w);
            case EffectHandlers.LT -> give(v < w ? 1 : 0);
            case EffectHandlers.EQ -> give(v == w ? 1 : 0);
            case EffectHandlers.SEQ -> give(w);
            default -> resume(e, v, w, owner);
        };
    }

    private Step emit(Expr e, int v) {
        if (emitted.size() == EffectHandlers.MAX_OUTPUT) {
            return trap(EffectHandlers.TRAP_OUTPUT, e);
        }
        emitted.add(v);
        return give(v);
    }

    private Step perform(Expr e, int v) {
        if (performs == maxPerforms) {
            return trap(EffectHandlers.TRAP_LIMIT, e);
        }
        performs++;
        for (int i = stack.size() - 1; i >= 0; i--) {
            Item frame = stack.get(i);
            Expr clause = frame.handle == null ? null : caseFor(frame.handle, e.a);
            if (clause != null) {
                Resumption r = new Resumption();
                r.frame = frame;
                r.captured = new ArrayList<>(stack.subList(i + 1, stack.size()));
                stack = new ArrayList<>(stack.subList(0, i));
                Map<Integer, Integer> env = bound(frame.env, clause.c, frame.parameter, clause.b, v);
                return () -> eval(clause.parts.get(0), env, r);
            }
        }
        return trap(EffectHandlers.TRAP_UNHANDLED, e);
    }

    private Step resume(Expr e, int parameter, int u, Resumption owner) {
        if (owner.used) {
            return trap(EffectHandlers.TRAP_RESUMED_TWICE, e);
        }
        owner.used = true;
        resumes++;
        if (owner.frame.handle.a == EffectHandlers.DEEP) {
            Item frame = new Item();
            frame.handle = owner.frame.handle;
            frame.env = owner.frame.env;
            frame.owner = owner.frame.owner;
            frame.parameter = parameter;
            stack.add(frame);
        }
        stack.addAll(owner.captured);
        return give(u);
    }
}
