/** Promises 22 to 24: how letters would end, what it does to bonds, the least bribe. */
public final class EndsTest {
    public static void main(String[] args) {
        ends();
        bond();
        least();
        Check.finish();
    }

    private static void ends() {
        for (int words = 0; words <= 9; words++) {
            LetterEnds x = Check.posted(Check.SIX);
            long digest = x.digest();
            for (int mood = 0; mood <= 9; mood++) {
                int half = (words + mood) / 2;
                int both = words + mood > 9 ? 9 : words + mood;
                int[] want = {half, words, half < 5 ? 5 : half, both, words < 5 ? 5 : words, both};
                for (int l = 0; l < 6; l++) {
                    Check.due("ends(" + l + ", " + words + ", " + mood + ")", x.ends(l, words, mood), want[l]);
                }
            }
            Check.due("ends() is aside", x.digest(), digest);
        }
        LetterEnds x = Check.posted(Check.SIX);
        Check.dueRefused("ends(6, 0, 0)", x, () -> x.ends(6, 0, 0), Check.BAD);
        Check.dueRefused("ends(-1, 0, 0)", x, () -> x.ends(-1, 0, 0), Check.BAD);
        Check.dueRefused("ends(0, 10, 0)", x, () -> x.ends(0, 10, 0), Check.BAD);
        Check.dueRefused("ends(0, -1, 0)", x, () -> x.ends(0, -1, 0), Check.BAD);
        Check.dueRefused("ends(0, 0, 10)", x, () -> x.ends(0, 0, 10), Check.BAD);
        Check.dueRefused("ends(0, 0, -1)", x, () -> x.ends(0, 0, -1), Check.BAD);
    }

    private static void dueBond(LetterEnds x, int l, int bond, int mood) {
        long digest = x.digest();
        Check.due("bond(" + l + ")", x.bond(l), bond);
        Check.due("bond(" + l + "), asked()", x.asked(), mood);
        Check.due("bond(" + l + ") is aside", x.digest(), digest);
    }

    private static void bond() {
        LetterEnds x = Check.posted(Check.SIX);
        int[][] want = {{3, 4}, {0, 3}, {20, 3}, {13, 6}, {20, 3}, {20, 3}};
        for (int l = 0; l < 6; l++) {
            dueBond(x, l, want[l][0], want[l][1]);
        }
        x.carry(3);
        dueBond(x, 3, 17, 7);
        Check.dueRefused("bond(6)", x, () -> x.bond(6), Check.BAD);
        Check.dueRefused("bond(-1)", x, () -> x.bond(-1), Check.BAD);
    }

    private static void least() {
        LetterEnds x = Check.posted(Check.SIX);
        Check.due("least(0, 5)", x.least(0, 5), 0);
        Check.due("least(0, 6)", x.least(0, 6), 1);
        Check.due("least(0, 7)", x.least(0, 7), 3);
        Check.dueRefused("least(0, 8): the walk takes 1 from 9", x, () -> x.least(0, 8), Check.NONE);
        Check.due("least(1, 2)", x.least(1, 2), 0);
        Check.dueRefused("least(1, 3)", x, () -> x.least(1, 3), Check.NONE);
        Check.due("least(3, 9)", x.least(3, 9), 1);
        Check.due("least(4, 0)", x.least(4, 0), 0);
        x.carry(3);
        Check.due("carried, least(3, 9)", x.least(3, 9), 0);
        Check.dueRefused("least(6, 0)", x, () -> x.least(6, 0), Check.BAD);
        Check.dueRefused("least(-1, 0)", x, () -> x.least(-1, 0), Check.BAD);
        Check.dueRefused("least(0, 10)", x, () -> x.least(0, 10), Check.BAD);
        Check.dueRefused("least(0, -1)", x, () -> x.least(0, -1), Check.BAD);
        Check.due("a bribe of all", Check.posted("p01h00v00").least(0, 9), 9);
        Check.due("sun on the way lifts by itself", Check.posted("p02h00h00h00v20").least(0, 9), 7);
        Check.due("what rain takes is taken behind the bribe", Check.posted("p00h00h00h00v20").least(0, 1), 3);
    }
}
