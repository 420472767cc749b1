import java.util.ArrayList;
import java.util.HashSet;
import java.util.List;
import java.util.Set;

/** Writes programs at random that keep to the grammar and to the scope rules, up to a number of tokens. */
final class Writer {
    private static final int[] NUMBERS = {0, 1, 2, 3, -1, 7, Integer.MAX_VALUE, Integer.MIN_VALUE};

    /** What stands around an E: the names that are bound, the operations that a HANDLE catches, and whether in a C. */
    record Around(Set<Integer> names, Set<Integer> caught, boolean inCase) {
        Around binding(int one, int other) {
            return new Around(with(names, Set.of(one), Set.of(other)), caught, inCase);
        }

        Around catching(Set<Integer> operations) {
            return new Around(names, with(caught, operations, Set.of()), inCase);
        }

        Around clause() {
            return new Around(names, caught, true);
        }

        private static Set<Integer> with(Set<Integer> set, Set<Integer> one, Set<Integer> other) {
            Set<Integer> wider = new HashSet<>(set);
            wider.addAll(one);
            wider.addAll(other);
            return wider;
        }
    }

    private final Dice dice;
    private final int operations;
    private final int names;
    private final boolean handles;
    private final List<int[]> rows = new ArrayList<>();

    /** Operations and names are kept few, so that they often meet. */
    Writer(Dice dice, int operations, int names, boolean handles) {
        this.dice = dice;
        this.operations = operations;
        this.names = names;
        this.handles = handles;
    }

    /** One E of at most this many tokens. */
    int[][] write(int most, Set<Integer> caught) {
        rows.clear();
        expr(most, new Around(Set.of(), caught, false));
        return rows.toArray(new int[0][]);
    }

    private void add(int kind, int a, int b, int c) {
        rows.add(new int[] {kind, a, b, c});
    }

    private int name() {
        return dice.roll(names);
    }

    private void expr(int most, Around around) {
        if (handles && most >= 8 && dice.oneIn(rows.size() < 4 ? 2 : 5)) {
            handle(most, around);
            return;
        }
        switch (most < 2 ? 0 : most < 3 ? dice.roll(4) : 2 + dice.roll(11)) {
            case 0, 1, 12 -> leaf(around);
            case 2 -> chain(EffectHandlers.EMIT, 0, most, around);
            case 3, 4, 5 -> perform(most, around);
            case 6, 7 -> pair(EffectHandlers.ADD + dice.roll(5), 0, most, around);
            case 8 -> pair(EffectHandlers.SEQ, 0, most, around);
            case 9 -> pair(EffectHandlers.LET, name(), most, around);
            case 10 -> choice(most, around);
            default -> resume(most, around);
        }
    }

    private int oneOf(Set<Integer> set) {
        return new ArrayList<>(set).get(dice.roll(set.size()));
    }

    private void leaf(Around around) {
        if (!around.names.isEmpty() && !dice.oneIn(3)) {
            add(EffectHandlers.VAR, oneOf(around.names), 0, 0);
        } else {
            add(EffectHandlers.NUM, NUMBERS[dice.roll(dice.oneIn(4) ? NUMBERS.length : 4)], 0, 0);
        }
    }

    /** Mostly one token, now and then many, since few programs reach the limits otherwise. */
    private void chain(int kind, int a, int most, Around around) {
        int length = dice.oneIn(6) ? 1 + dice.roll(most - 1) : 1;
        for (int i = 0; i < length; i++) {
            add(kind, a, 0, 0);
        }
        expr(most - length, around);
    }

    private void perform(int most, Around around) {
        if (handles && dice.oneIn(20)) {
            chain(EffectHandlers.PERFORM, dice.roll(operations), most, around);
        } else if (around.caught.isEmpty()) {
            chain(EffectHandlers.EMIT, 0, most, around);
        } else {
            chain(EffectHandlers.PERFORM, oneOf(around.caught), most, around);
        }
    }

    private void pair(int kind, int a, int most, Around around) {
        add(kind, a, 0, 0);
        int first = 1 + dice.roll(most - 2);
        expr(first, around);
        expr(most - 1 - first, kind == EffectHandlers.LET ? around.binding(a, a) : around);
    }

    private void resume(int most, Around around) {
        pair(around.inCase ? EffectHandlers.RESUME : EffectHandlers.SEQ, 0, most, around);
    }

    private void choice(int most, Around around) {
        if (most < 4) {
            leaf(around);
            return;
        }
        add(EffectHandlers.IF, 0, 0, 0);
        for (int i = 0; i < 3; i++) {
            expr((most - 1) / 3, around);
        }
    }

    private void handle(int most, Around around) {
        int end = rows.size() + most;
        Set<Integer> wanted = new HashSet<>();
        for (int i = 0; i < 3; i++) {
            wanted.add(dice.roll(operations));
        }
        add(EffectHandlers.HANDLE, dice.oneIn(4) ? EffectHandlers.SHALLOW : EffectHandlers.DEEP, 0, 0);
        expr(1 + dice.roll(2), around);
        body(1 + dice.roll(most - 7), around.catching(wanted));
        int value = name();
        int parameter = name();
        add(EffectHandlers.RETURN, value, parameter, 0);
        expr(Math.max(1, Math.min(1 + dice.roll(5), end - rows.size() - 4)), around.binding(value, parameter));
        for (int operation : wanted) {
            if (end - rows.size() >= 3) {
                int argument = name();
                int carried = name();
                add(EffectHandlers.CASE, operation, argument, carried);
                clause(Math.min(3 + dice.roll(8), end - rows.size() - 1), around.binding(argument, carried).clause());
            }
        }
        add(EffectHandlers.END, 0, 0, 0);
    }

    private void body(int most, Around around) {
        if (most >= 5 && !dice.oneIn(4)) {
            add(EffectHandlers.ADD, 0, 0, 0);
            int first = 2 + dice.roll(most - 4);
            perform(first, around);
            perform(most - 1 - first, around);
        } else {
            expr(most, around);
        }
    }

    private void clause(int most, Around around) {
        if (most >= 3 && !dice.oneIn(3)) {
            resume(most, around);
        } else {
            expr(most, around);
        }
    }
}
