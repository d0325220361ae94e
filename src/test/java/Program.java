import java.util.List;

/** Programs written down as text, such as "SET 0 1; WHILE 0; END". */
final class Program {
    private static final List<String> KINDS = List.of("SET", "OP", "IF", "WHILE", "END", "PROC", "CALL", "RET");

    private Program() {
    }

    static int[][] lines(String text) {
        if (text.isBlank()) {
            return new int[0][];
        }
        String[] parts = text.split(";");
        int[][] lines = new int[parts.length][];
        for (int i = 0; i < parts.length; i++) {
            lines[i] = line(parts[i].trim());
        }
        return lines;
    }

    private static int[] line(String text) {
        String[] words = text.split(" +");
        int[] line = new int[4];
        line[0] = KINDS.indexOf(words[0]) + 1;
        for (int i = 1; i < words.length; i++) {
            line[i] = Integer.parseInt(words[i]);
        }
        return line;
    }

    static int add(LineProgramDbg x, String text) {
        int[] line = line(text);
        return x.addLine(line[0], line[1], line[2], line[3]);
    }

    /** An object with these lines, not yet compiled. */
    static LineProgramDbg edited(int maxDepth, int budget, int[][] lines) {
        LineProgramDbg x = new LineProgramDbg(maxDepth, budget);
        for (int i = 0; i < lines.length; i++) {
            Check.due("addLine of line " + (i + 1), x.addLine(lines[i][0], lines[i][1], lines[i][2], lines[i][3]), i + 1);
        }
        return x;
    }

    static LineProgramDbg edited(int maxDepth, int budget, String text) {
        return edited(maxDepth, budget, lines(text));
    }

    /** An object with these lines, compiled and ready. */
    static LineProgramDbg ready(int maxDepth, int budget, int[][] lines) {
        LineProgramDbg x = edited(maxDepth, budget, lines);
        Check.due("compile()", x.compile(), 0);
        return x;
    }

    static LineProgramDbg ready(int maxDepth, int budget, String text) {
        return ready(maxDepth, budget, lines(text));
    }

    /** The same line many times. */
    static String times(int n, String line) {
        return (line + "; ").repeat(n - 1) + line;
    }
}
