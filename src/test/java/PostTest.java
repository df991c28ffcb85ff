/** Promises 12 to 14: what is told of houses, letters, kinds. */
public final class PostTest {
    public static void main(String[] args) {
        house();
        letter();
        mark();
        Check.finish();
    }

    private static void house() {
        LetterEnds x = Check.posted(Check.SIX);
        int[][] told = {{10, 8, 0}, {3, 3, 1}, {20, 52, 2}};
        for (int h = 0; h < 3; h++) {
            for (int what = 0; what < 3; what++) {
                Check.dueAsked("house(" + h + ", " + what + ")", x, x.house(h, what), told[h][what]);
            }
        }
        x.carry(5);
        Check.dueAsked("from house 2, house(0, 2)", x, x.house(0, 2), 2);
        Check.dueAsked("from house 2, house(2, 2)", x, x.house(2, 2), 0);
        Check.dueAsked("carried, house(2, 1)", x, x.house(2, 1), 52);
        Check.dueRefused("house(3, 0)", x, () -> x.house(3, 0), Check.BAD);
        Check.dueRefused("house(-1, 0)", x, () -> x.house(-1, 0), Check.BAD);
        Check.dueRefused("house(0, 3)", x, () -> x.house(0, 3), Check.BAD);
        Check.dueRefused("house(0, -1)", x, () -> x.house(0, -1), Check.BAD);
    }

    private static void letter() {
        LetterEnds x = Check.posted(Check.SIX);
        int[][] told = {{0, 1, 7, -9, 5}, {1, 1, 2, -9, 2}, {2, 2, 4, -9, 5}, {3, 0, 3, -9, 8}, {4, 2, 1, -9, 5}, {5, 2, 6, -9, 9}};
        for (int l = 0; l < 6; l++) {
            for (int what = 0; what < 5; what++) {
                Check.dueAsked("letter(" + l + ", " + what + ")", x, x.letter(l, what), told[l][what]);
            }
        }
        x.carry(3);
        Check.dueAsked("carried, letter(3, 3)", x, x.letter(3, 3), 8);
        Check.dueAsked("carried, as if it were not, letter(3, 4)", x, x.letter(3, 4), 9);
        x.day();
        Check.dueAsked("a day later, letter(3, 3)", x, x.letter(3, 3), Check.NONE);
        Check.dueRefused("letter(6, 0)", x, () -> x.letter(6, 0), Check.BAD);
        Check.dueRefused("letter(-1, 0)", x, () -> x.letter(-1, 0), Check.BAD);
        Check.dueRefused("letter(0, 5)", x, () -> x.letter(0, 5), Check.BAD);
        Check.dueRefused("letter(0, -1)", x, () -> x.letter(0, -1), Check.BAD);
    }

    private static void mark() {
        LetterEnds x = Check.posted(Check.SIX);
        int[][] marks = {{-3, -3, -3, -3, -3}, {3, -3, -3, -3, -3}, {-3, 1, -3, -3, -3},
            {-3, -3, 6, -3, -3}, {4, -3, -3, 4, -3}, {-3, -3, 3, -3, 9}};
        for (int l = 0; l < 6; l++) {
            for (int kind = 1; kind <= 5; kind++) {
                int one = l;
                int of = kind;
                if (marks[l][kind - 1] == Check.FINDING) {
                    Check.dueFinding("mark(" + l + ", " + kind + ")", x, () -> x.mark(one, of), Check.UNLIKE);
                } else {
                    Check.due("mark(" + l + ", " + kind + ")", x.mark(l, kind), marks[l][kind - 1]);
                }
            }
        }
        for (int kind : new int[] {0, 6, -1}) {
            Check.dueRefused("mark(0, " + kind + ")", x, () -> x.mark(0, kind), Check.BAD);
        }
        Check.dueRefused("mark(6, 1)", x, () -> x.mark(6, 1), Check.BAD);
        Check.dueRefused("mark(-1, 1)", x, () -> x.mark(-1, 1), Check.BAD);
        LetterEnds y = Check.posted("p91h00h00h00t02k19b13f24v20");
        Check.due("a telegram below the mood", y.mark(0, 1), 7);
        Check.due("a black one made up by nothing", y.mark(1, 4), 0);
        Check.due("a black one as warm as the mood", y.mark(1, 1), 0);
        Check.due("a bill warm by itself", y.mark(2, 2), 0);
        Check.due("a French one in a mood of 0", y.mark(3, 5), 4);
        Check.due("a love letter of cold words", y.mark(4, 3), 9);
    }
}
