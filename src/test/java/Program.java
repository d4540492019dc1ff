import java.util.List;

/**
 * Feeds programs that are written as text, one line after the other, parted by line ends or ';'.
 * A line is a kind's name and its arguments: v3 is variable 3, #7 is the OPERAND for the constant 7,
 * a bare number stands for itself (a function's number, a capacity, a count of parameters).
 */
final class Program {
    static final List<String> KINDS = List.of("FUNC", "END", "IF", "ELSE", "LOOP", "BREAK", "SELECT", "CASESEND",
            "CASERECV", "DEFAULT", "SEND", "RECV", "CLOSE", "MAKE", "GO", "CALL", "DEFER", "RETURN", "PANIC",
            "RECOVER", "PRINT", "SET", "ADD", "SUB", "MUL", "DIV", "LESS", "SAME", "SLEEP", "AFTER");

    private Program() {
    }

    static Counted fed(String text) {
        Counted x = new Counted();
        feed(x, text);
        return x;
    }

    /** A program that must pass its check and stands at its beginning. */
    static Counted ready(String text) {
        Counted x = fed(text);
        int answer = x.check();
        if (answer != ChannelProgramRunner.OK) {
            throw new IllegalStateException("check answered " + answer + " at line " + x.badLine() + " of " + text);
        }
        return x;
    }

    /** A program that has run until it ended, or for 2000 steps. */
    static Counted ended(String text) {
        Counted x = ready(text);
        for (int i = 0; i < 10; i++) {
            x.run(200);
        }
        return x;
    }

    static void feed(Counted x, String text) {
        feed(x, text, 0);
    }

    /** Arguments that the text leaves out are all the same number. */
    static void feed(Counted x, String text, int leftOut) {
        for (String part : text.split("[;\n]")) {
            String[] words = part.trim().split("\\s+");
            if (words[0].isEmpty()) {
                continue;
            }
            int[] args = {leftOut, leftOut, leftOut};
            for (int i = 1; i < words.length; i++) {
                args[i - 1] = argument(words[i]);
            }
            int kind = KINDS.indexOf(words[0]);
            if (kind < 0 || !x.line(kind, args[0], args[1], args[2])) {
                throw new IllegalStateException("refused: " + part);
            }
        }
    }

    private static int argument(String word) {
        if (word.startsWith("v")) {
            return Integer.parseInt(word.substring(1));
        }
        if (word.startsWith("#")) {
            int constant = Integer.parseInt(word.substring(1));
            return constant < 0 ? constant : constant + 6;
        }
        return Integer.parseInt(word);
    }

    /** What was printed, oldest first, at most 32 values. */
    static String outputs(Counted x) {
        StringBuilder all = new StringBuilder();
        for (int k = Math.min(x.printed(), 32) - 1; k >= 0; k--) {
            all.append(all.length() == 0 ? "" : " ").append(x.output(k));
        }
        return all.toString();
    }
}
