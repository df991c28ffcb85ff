/** Promises 28 to 30: what a letter meant, of which kind it is, the mood that tells most. */
public final class CluesTest {
    public static void main(String[] args) {
        meant();
        kinds();
        test();
        refused();
        unlike();
        Check.finish();
    }

    private static void meant() {
        LetterEnds x = Check.posted(Check.SIX);
        Check.rowOf(x, 0);
        for (int l = 0; l < 6; l++) {
            Check.due("meant(" + l + ") by nothing", x.meant(l, 0), 1023);
        }
        Check.rowOf(x, 0, 5, 6);
        int[] want = {3 << 7, 1 << 6, 3 << 7, 1 << 1, 1 << 6, 1 << 1};
        for (int l = 0; l < 6; l++) {
            Check.due("meant(" + l + ") by 5, 6", x.meant(l, 0), want[l]);
        }
        Check.rowOf(x, 0, 5, 6, 6, 6);
        Check.due("meant(0) by two pairs", x.meant(0, 0), 1 << 7);
        Check.rowOf(x, 0, 0, 5);
        Check.due("meant(2) of a bill at 5", x.meant(2, 0), 1023);
        Check.due("meant(4) of a black one at 5", x.meant(4, 0), 63);
        Check.rowOf(x, 0, 9, 9);
        Check.due("meant(3) of love at 9", x.meant(3, 0), 1023);
        Check.rowOf(x, 0, 1, 9, 1, 9, 1, 9, 1, 9, 1, 9, 1, 9, 1, 9, 1, 9);
        Check.due("meant(3) by eight pairs", x.meant(3, 0), 3 << 8);
    }

    private static void kinds() {
        LetterEnds x = Check.posted(Check.SIX);
        Check.rowOf(x, 0);
        Check.due("kinds(0) by nothing", x.kinds(0, 0), 63);
        Check.rowOf(x, 0, 5, 6);
        Check.due("kinds(0), words 7, by 5, 6", x.kinds(0, 0), 5);
        Check.rowOf(x, 0, 5, 7);
        Check.due("kinds(0), words 7, by 5, 7", x.kinds(0, 0), 2 + 16);
        Check.rowOf(x, 0, 5, 9);
        Check.due("kinds(0), words 7, by 5, 9", x.kinds(0, 0), 8 + 32);
        Check.rowOf(x, 0, 1, 5);
        Check.due("kinds(1), words 2, by 1, 5", x.kinds(1, 0), 4 + 16);
        Check.rowOf(x, 0, 1, 5, 9, 5);
        Check.due("kinds(1), words 2, by 1, 5, 9, 5", x.kinds(1, 0), 4 + 16);
        Check.rowOf(x, 0, 5, 1);
        Check.due("kinds(0), words 7, by 5, 1", x.kinds(0, 0), 0);
    }

    private static void dueTest(LetterEnds x, int l, int mood, int part) {
        Check.due("test(" + l + ", 0)", x.test(l, 0), mood);
        Check.due("test(" + l + ", 0), asked()", x.asked(), part);
    }

    private static void test() {
        LetterEnds x = Check.posted(Check.SIX);
        Check.rowOf(x, 0);
        dueTest(x, 0, 0, 2);
        dueTest(x, 1, 0, 1);
        // a bill: in mood 9 the words 0, 1, 2 end at 5 or below it, then by twos
        dueTest(x, 2, 9, 3);
        dueTest(x, 3, 0, 1);
        dueTest(x, 4, 0, 6);
        Check.rowOf(x, 0, 5, 6);
        // 7 and 8: told apart by mood 0
        dueTest(x, 0, 0, 1);
        Check.rowOf(x, 0, 4, 6);
        // 8 and 9: not by mood 0, but by mood 1
        dueTest(x, 0, 1, 1);
        Check.rowOf(x, 0, 5, 4);
        Check.dueRefused("test(4, 0) of no words", x, () -> x.test(4, 0), Check.NONE);
    }

    private static void dueAll(String call, LetterEnds x, int l, int r, int want) {
        if (want < 0) {
            Check.dueRefused("meant, " + call, x, () -> x.meant(l, r), want);
            Check.dueRefused("kinds, " + call, x, () -> x.kinds(l, r), want);
            Check.dueRefused("test, " + call, x, () -> x.test(l, r), want);
        } else {
            Check.dueFinding("meant, " + call, x, () -> x.meant(l, r), want);
            Check.dueFinding("kinds, " + call, x, () -> x.kinds(l, r), want);
            Check.dueFinding("test, " + call, x, () -> x.test(l, r), want);
        }
    }

    private static void refused() {
        LetterEnds x = Check.posted(Check.SIX);
        dueAll("letter 6", x, 6, 0, Check.BAD);
        dueAll("letter -1", x, -1, 0, Check.BAD);
        dueAll("row 6", x, 0, 6, Check.BAD);
        dueAll("row -1", x, 0, -1, Check.BAD);
        dueAll("a missing row", x, 0, 0, Check.NOTHING);
        notAsManyAsDue();
    }

    private static void notAsManyAsDue() {
        LetterEnds x = Check.posted(Check.SIX);
        Check.rowOf(x, 0, 77);
        dueAll("half a pair", x, 0, 0, Check.SIZE);
        Check.rowOf(x, 0, 1, 2, 3);
        dueAll("a pair and a half", x, 0, 0, Check.SIZE);
        x.row(0, 17);
        dueAll("seventeen", x, 0, 0, Check.SIZE);
        x.row(0, 18);
        dueAll("nine pairs", x, 0, 0, Check.SIZE);
    }

    private static void unlike() {
        LetterEnds x = Check.posted(Check.SIX);
        Check.rowOf(x, 0, 1, 2, 10, 2);
        dueAll("a mood of 10", x, 0, 0, Check.UNLIKE);
        Check.rowOf(x, 0, 1, 2, -1, 2);
        dueAll("a mood of -1", x, 0, 0, Check.UNLIKE);
        Check.rowOf(x, 0, 10, 2, 1, 2);
        dueAll("a first mood of 10", x, 0, 0, Check.UNLIKE);
        Check.rowOf(x, 0, 1, 10);
        dueAll("ended at 10", x, 0, 0, Check.UNLIKE);
        Check.rowOf(x, 0, 1, -1);
        dueAll("ended at -1", x, 0, 0, Check.UNLIKE);
    }
}
