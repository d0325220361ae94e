import java.util.ArrayList;
import java.util.List;

/** Programs by the dice: mostly ones that compile, with loops that end and calls that nest. */
final class RandomPrograms {
    private final Dice dice;
    private final List<int[]> lines = new ArrayList<>();

    RandomPrograms(Dice dice) {
        this.dice = dice;
    }

    /** Lines whose blocks match, with a PROC for every procedure that may be called. */
    int[][] wellFormed() {
        lines.clear();
        int procedures = dice.roll(5);
        int before = dice.roll(procedures + 1);
        for (int p = 0; p < before; p++) {
            procedure(p, procedures);
        }
        body(3 + dice.roll(12), procedures, 0);
        for (int p = before; p < procedures; p++) {
            procedure(p, procedures);
        }
        if (dice.roll(3) == 0) {
            body(3, procedures, 0);
        }
        return lines.toArray(new int[0][]);
    }

    /** Any lines at all. */
    int[][] wild() {
        lines.clear();
        int size = dice.roll(8);
        for (int i = 0; i < size; i++) {
            lines.add(new int[] {dice.of(1, 3, 4, 5, 5, 5, 6, 6, 7), dice.roll(4), dice.roll(8), dice.roll(5)});
        }
        return lines.toArray(new int[0][]);
    }

    private static int[] line(int kind, int... operands) {
        int[] line = new int[4];
        line[0] = kind;
        System.arraycopy(operands, 0, line, 1, operands.length);
        return line;
    }

    private void procedure(int p, int procedures) {
        lines.add(line(LineProgramDbg.K_PROC, p));
        body(1 + dice.roll(5), procedures, 0);
        lines.add(line(LineProgramDbg.K_END, 0));
    }

    private void body(int size, int procedures, int nested) {
        for (int i = 0; i < size; i++) {
            int v = dice.roll(3);
            switch (dice.roll(9)) {
                case 0:
                case 1:
                    lines.add(line(LineProgramDbg.K_SET, dice.roll(4), dice.of(0, 1, 2, 3, -1, Integer.MAX_VALUE)));
                    break;
                case 2:
                case 3:
                    lines.add(line(LineProgramDbg.K_OP, dice.roll(4), dice.roll(4), dice.of(-1, 1, 0, 2, Integer.MIN_VALUE)));
                    break;
                case 4:
                    block(line(LineProgramDbg.K_IF, v), procedures, nested);
                    break;
                case 5:
                    block(line(LineProgramDbg.K_WHILE, v), procedures, nested);
                    break;
                case 6:
                    if (dice.roll(4) == 0) {
                        lines.add(line(LineProgramDbg.K_RET, 0));
                    }
                    break;
                default:
                    if (procedures > 0) {
                        lines.add(line(LineProgramDbg.K_CALL, dice.roll(procedures)));
                    }
            }
        }
    }

    private void block(int[] opening, int procedures, int nested) {
        lines.add(opening);
        if (nested < 3) {
            body(dice.roll(3), procedures, nested + 1);
        }
        if (opening[0] == LineProgramDbg.K_WHILE && dice.roll(4) != 0) {
            lines.add(line(LineProgramDbg.K_OP, opening[1], opening[1], -1));
        }
        lines.add(line(LineProgramDbg.K_END, 0));
    }
}
