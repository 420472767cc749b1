import java.util.List;

/** Programs as text: each token is its kind's name, with its arguments behind a colon ("CASE:0,2,3"). */
final class Tokens {
    private static final List<String> NAMES = List.of("", "NUM", "VAR", "ADD", "SUB", "MUL", "LT", "EQ", "IF", "LET",
            "SEQ", "EMIT", "PERFORM", "HANDLE", "RETURN", "CASE", "END", "RESUME");

    private Tokens() {
    }

    /** One row of kind, a, b and c for each token of the text. */
    static int[][] read(String text) {
        if (text.isBlank()) {
            return new int[0][];
        }
        String[] words = text.trim().split("\\s+");
        int[][] rows = new int[words.length][];
        for (int i = 0; i < words.length; i++) {
            rows[i] = readOne(words[i]);
        }
        return rows;
    }

    private static int[] readOne(String word) {
        String[] halves = word.split(":");
        int[] row = new int[4];
        row[0] = NAMES.indexOf(halves[0]);
        if (row[0] < 1) {
            throw new IllegalArgumentException(word);
        }
        String[] args = halves.length == 1 ? new String[0] : halves[1].split(",");
        for (int i = 0; i < args.length; i++) {
            row[i + 1] = Integer.parseInt(args[i]);
        }
        return row;
    }

    static String write(int[][] rows) {
        StringBuilder text = new StringBuilder();
        for (int[] row : rows) {
            text.append(NAMES.get(row[0])).append(':').append(row[1]).append(',').append(row[2]).append(',')
                    .append(row[3]).append(' ');
        }
        return text.toString();
    }
}
