/** Promises 1 to 7: a new object, rows. */
public final class RowsTest {
    private static final int LEAST = Integer.MIN_VALUE, MOST = Integer.MAX_VALUE;

    public static void main(String[] args) {
        newObject();
        row();
        layAndAt();
        tear();
        copy();
        mean();
        Check.finish();
    }

    private static void newObject() {
        LetterEnds x = new LetterEnds();
        for (int what = 0; what <= 13; what++) {
            Check.due("new, count(" + what + ")", x.count(what), 0);
        }
        for (int r = 0; r < 6; r++) {
            int row = r;
            Check.dueFinding("new, at(" + r + ", 0)", x, () -> x.at(row, 0), Check.NOTHING);
        }
        for (int t = 0; t < 4; t++) {
            int text = t;
            Check.dueFinding("new, fault(" + t + ")", x, () -> x.fault(text), Check.NOTHING);
        }
        Check.dueRefused("new, house(0, 0)", x, () -> x.house(0, 0), Check.BAD);
        Check.dueRefused("new, letter(0, 0)", x, () -> x.letter(0, 0), Check.BAD);
    }

    private static void row() {
        LetterEnds x = new LetterEnds();
        Check.due("row(5, 40)", x.row(5, 40), 40);
        Check.dueAsked("at(5, 39)", x, x.at(5, 39), 0);
        Check.due("row(0, 0)", x.row(0, 0), 0);
        Check.due("two rows", x.count(11), 2);
        x.row(1, 3);
        x.lay(1, 2, 7);
        Check.due("row(1, 3) anew", x.row(1, 3), 3);
        Check.dueRow("row(1, 3) anew", x, 1, 0, 0, 0);
        Check.dueRefused("row(-1, 1)", x, () -> x.row(-1, 1), Check.BAD);
        Check.dueRefused("row(6, 1)", x, () -> x.row(6, 1), Check.BAD);
        Check.dueRefused("row(1, 41)", x, () -> x.row(1, 41), Check.BAD);
        Check.dueRefused("row(1, most)", x, () -> x.row(1, MOST), Check.BAD);
        Check.dueRefused("row(6, -1)", x, () -> x.row(6, -1), Check.BAD);
        Check.dueFinding("row(1, -1)", x, () -> x.row(1, -1), Check.SIZE);
        Check.dueFinding("row(1, least)", x, () -> x.row(1, LEAST), Check.SIZE);
    }

    private static void layAndAt() {
        LetterEnds x = new LetterEnds();
        x.row(2, 2);
        Check.dueAsked("lay(2, 0, most)", x, x.lay(2, 0, MOST), 0);
        Check.dueAsked("lay(2, 0, least)", x, x.lay(2, 0, LEAST), MOST);
        Check.dueAsked("at(2, 0)", x, x.at(2, 0), LEAST);
        Check.dueAsked("at(2, 1)", x, x.at(2, 1), 0);
        for (int i : new int[] {-1, 2, MOST, LEAST}) {
            Check.dueFinding("lay(2, " + i + ", 1)", x, () -> x.lay(2, i, 1), Check.BEYOND);
            Check.dueFinding("at(2, " + i + ")", x, () -> x.at(2, i), Check.BEYOND);
        }
        for (int r : new int[] {-1, 6, MOST, LEAST}) {
            Check.dueRefused("lay(" + r + ", 0, 1)", x, () -> x.lay(r, 0, 1), Check.BAD);
            Check.dueRefused("at(" + r + ", 0)", x, () -> x.at(r, 0), Check.BAD);
        }
        Check.dueFinding("lay(3, 0, 1)", x, () -> x.lay(3, 0, 1), Check.NOTHING);
        Check.dueFinding("at(3, -1)", x, () -> x.at(3, -1), Check.NOTHING);
    }

    private static void tear() {
        LetterEnds x = new LetterEnds();
        x.row(4, 2);
        Check.due("tear(4)", x.tear(4), 1);
        Check.due("no rows", x.count(11), 0);
        Check.dueFinding("tear(4) again", x, () -> x.tear(4), Check.NOTHING);
        Check.dueRefused("tear(-1)", x, () -> x.tear(-1), Check.BAD);
        Check.dueRefused("tear(6)", x, () -> x.tear(6), Check.BAD);
        x.row(4, 0);
        Check.due("tear(4) of an empty one", x.tear(4), 1);
    }

    private static void copy() {
        LetterEnds x = new LetterEnds();
        Check.rowOf(x, 0, 1, 2, 3, 4, 5);
        Check.rowOf(x, 1, 9, 9, 9);
        Check.due("copy(0, 1, 1, 0, 2)", x.copy(0, 1, 1, 0, 2), 1);
        Check.dueRow("copy(0, 1, 1, 0, 2)", x, 1, 2, 3, 9);
        Check.due("copy(0, 0, 0, 1, 4)", x.copy(0, 0, 0, 1, 4), 1);
        Check.dueRow("copy forward in itself", x, 0, 1, 1, 2, 3, 4);
        Check.due("copy(0, 1, 0, 0, 4)", x.copy(0, 1, 0, 0, 4), 1);
        Check.dueRow("copy backward in itself", x, 0, 1, 2, 3, 4, 4);
        Check.due("copy of none at the ends", x.copy(0, 5, 1, 3, 0), 1);
        Check.dueFinding("copy(0, 6, 1, 0, 0)", x, () -> x.copy(0, 6, 1, 0, 0), Check.BEYOND);
        Check.dueFinding("copy(0, 0, 1, 4, 0)", x, () -> x.copy(0, 0, 1, 4, 0), Check.BEYOND);
        Check.dueFinding("copy(0, -1, 1, 0, 0)", x, () -> x.copy(0, -1, 1, 0, 0), Check.BEYOND);
        Check.dueFinding("copy(0, 0, 1, -1, 1)", x, () -> x.copy(0, 0, 1, -1, 1), Check.BEYOND);
        Check.dueFinding("copy(0, 0, 1, 0, 4)", x, () -> x.copy(0, 0, 1, 0, 4), Check.BEYOND);
        Check.dueFinding("copy(1, 0, 0, 0, 4)", x, () -> x.copy(1, 0, 0, 0, 4), Check.BEYOND);
        Check.dueFinding("copy(0, 4, 1, 0, 2)", x, () -> x.copy(0, 4, 1, 0, 2), Check.BEYOND);
        Check.dueFinding("copy(0, 0, 1, 2, 2)", x, () -> x.copy(0, 0, 1, 2, 2), Check.BEYOND);
        Check.dueFinding("copy(0, 1, 1, 1, most)", x, () -> x.copy(0, 1, 1, 1, MOST), Check.BEYOND);
        Check.dueFinding("copy(0, most, 1, 0, 1)", x, () -> x.copy(0, MOST, 1, 0, 1), Check.BEYOND);
        Check.dueFinding("copy(2, 0, 1, 0, 1)", x, () -> x.copy(2, 0, 1, 0, 1), Check.NOTHING);
        Check.dueFinding("copy(0, -1, 2, 0, 1)", x, () -> x.copy(0, -1, 2, 0, 1), Check.NOTHING);
        Check.dueFinding("copy(2, 0, 3, 0, -1)", x, () -> x.copy(2, 0, 3, 0, -1), Check.SIZE);
        Check.dueRefused("copy(6, 0, 0, 0, -1)", x, () -> x.copy(6, 0, 0, 0, -1), Check.BAD);
        Check.dueRefused("copy(0, 0, -1, 0, 1)", x, () -> x.copy(0, 0, -1, 0, 1), Check.BAD);
    }

    private static void mean() {
        LetterEnds x = new LetterEnds();
        Check.rowOf(x, 0, 1, 2, 2);
        Check.dueAsked("mean of 1, 2, 2", x, x.mean(0), 1);
        Check.rowOf(x, 0, -1, -2, -2);
        Check.dueAsked("mean of -1, -2, -2", x, x.mean(0), -1);
        Check.rowOf(x, 0, MOST, MOST, MOST);
        Check.dueAsked("mean of the greatest", x, x.mean(0), MOST);
        Check.rowOf(x, 0, LEAST, LEAST);
        Check.dueAsked("mean of the least", x, x.mean(0), LEAST);
        x.row(0, 0);
        Check.dueFinding("mean of none", x, () -> x.mean(0), Check.NOUGHT);
        Check.dueFinding("mean(1)", x, () -> x.mean(1), Check.NOTHING);
        Check.dueRefused("mean(6)", x, () -> x.mean(6), Check.BAD);
        Check.dueRefused("mean(-1)", x, () -> x.mean(-1), Check.BAD);
    }
}
