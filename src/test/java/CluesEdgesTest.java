import java.util.function.IntBinaryOperator;

/** By how it ended, whose words, by turns: promises 28 to 33, sentence by sentence. */
public final class CluesEdgesTest {
    private static final String SIX = Check.SIX;
    private static final int[] LESS_OR_MORE = {-1, 10, 11, Check.LEAST, Check.MOST};

    public static void main(String[] args) {
        pairSentences();
        meantSentences();
        kindsSentences();
        testSentences();
        setsSentences();
        sureSentences();
        duelSentences();
        Sentences.finish();
    }

    private static void pairSentences() {
        Sentences.between("5 by how it ended", "Ahead of the calls `sets`");
        Sentences.holds("5 by how it ended (a ROW of pairs, 0 to 8", () -> ofEach(CluesEdgesTest::nothingToEightPairs));
        Sentences.holds("his MOOD 0 .. 9, as how warm it ENDED 0 .. 9", () -> ofEach(CluesEdgesTest::figuresOfPairs));
        Sentences.holds("NOTHING", () -> ofEach(CluesEdgesTest::ofNothing));
        Sentences.holds("SIZE", () -> ofEach(CluesEdgesTest::notAsManyAsDue));
        Sentences.holds("UNLIKE", () -> ofEach(CluesEdgesTest::unlike));
        Sentences.holds("behind BAD)", () -> ofEach(CluesEdgesTest::findingsInOrder));
    }

    private static void meantSentences() {
        Sentences.under("Promise 28: meant");
        Sentences.holds("Which WORDS (bits 0 .. 9) a LETTER can have by these", CluesEdgesTest::meantBits);
        Sentences.holds("BAD", () -> bad(MEANT));
        Sentences.holds("NOTHING", () -> ofNothing(MEANT));
        Sentences.holds("SIZE", () -> notAsManyAsDue(MEANT));
        Sentences.holds("UNLIKE", () -> unlike(MEANT));
    }

    private static void kindsSentences() {
        Sentences.under("Promise 29: kinds");
        Sentences.holds("Of which KINDS (bits) a LETTER can be by these, its WORDS as they are", CluesEdgesTest::kindsBits);
        Sentences.holds("BAD", () -> bad(KINDS));
        Sentences.holds("NOTHING", () -> ofNothing(KINDS));
        Sentences.holds("SIZE", () -> notAsManyAsDue(KINDS));
        Sentences.holds("UNLIKE", () -> unlike(KINDS));
    }

    private static void testSentences() {
        Sentences.under("Promise 30: test");
        Sentences.holds("The MOOD (0 .. 9; the first) by which these WORDS are told apart best", CluesEdgesTest::testFirstMood);
        Sentences.holds("the greatest part of those that END as warm is least; that part by asked()", CluesEdgesTest::testGreatestPart);
        Sentences.holds("NONE: there are no WORDS", CluesEdgesTest::testOfNoWords);
        Sentences.holds("BAD", () -> bad(TEST));
        Sentences.holds("NOTHING", () -> ofNothing(TEST));
        Sentences.holds("SIZE", () -> notAsManyAsDue(TEST));
        Sentences.holds("UNLIKE", () -> unlike(TEST));
    }

    private static void setsSentences() {
        Sentences.under("Promise 31: sets");
        Sentences.holds("How many sets of LETTERS (that of none, too)", CluesEdgesTest::setsWithThatOfNone);
        Sentences.holds("have WORDS of v (0 .. 54) together", CluesEdgesTest::setsAtTheBounds);
        Sentences.holds("told by upper() (lower() is 1)", CluesEdgesTest::setsToldByUpper);
        Sentences.holds("the first (the least as bits) by asked() (bits; NONE): 1", CluesEdgesTest::setsFirst);
        Sentences.holds("BAD", CluesEdgesTest::setsBad);
        Sentences.holds("STATE: no LETTERS", CluesEdgesTest::setsWithoutLetters);
    }

    private static void sureSentences() {
        Sentences.under("Promise 32: sure");
        Sentences.holds("LETTERS (bits) that are in each such set", CluesEdgesTest::sureInEach);
        Sentences.holds("those in none by asked()", CluesEdgesTest::sureInNone);
        Sentences.holds("BAD", CluesEdgesTest::sureBad);
        Sentences.holds("STATE", CluesEdgesTest::sureWithoutLetters);
        Sentences.holds("NOUGHT: there is no set", CluesEdgesTest::sureOfNoSet);
        Sentences.holds("(In this order.)", CluesEdgesTest::sureInThisOrder);
    }

    private static void duelSentences() {
        Sentences.under("Promise 33: duel");
        Sentences.holds("By turns two choose which LETTER that was not CARRIED is CARRIED next", CluesEdgesTest::duelOfThoseNotCarried);
        Sentences.holds("(they must, as long as there is one)", CluesEdgesTest::duelTheyMust);
        Sentences.holds("n (0 .. 3) times each, the first one begins", CluesEdgesTest::duelTimesEach);
        Sentences.holds("how warm these END together, the first one wanting that to be much", CluesEdgesTest::duelMuch);
        Sentences.holds("the other one little, told by asked(): 1", CluesEdgesTest::duelLittle);
        Sentences.holds("BAD", CluesEdgesTest::duelBad);
        Sentences.holds("STATE: no LETTERS", CluesEdgesTest::duelWithoutLetters);
    }

    private interface Clue {
        int by(LetterEnds x, int l, int r);
    }

    private static final Clue MEANT = (x, l, r) -> x.meant(l, r);
    private static final Clue KINDS = (x, l, r) -> x.kinds(l, r);
    private static final Clue TEST = (x, l, r) -> x.test(l, r);

    private static void ofEach(java.util.function.Consumer<Clue> sentence) {
        sentence.accept(MEANT);
        sentence.accept(KINDS);
        sentence.accept(TEST);
    }

    private static IntBinaryOperator of(LetterEnds x, Clue clue) {
        return (l, r) -> clue.by(x, l, r);
    }

    private static void nothingToEightPairs(Clue clue) {
        LetterEnds x = Check.posted(SIX);
        for (int pairs : new int[] {0, 1, 7, 8}) {
            // a French letter of words 6 in a mood of 0
            x.row(0, 2 * pairs);
            for (int i = 0; i < pairs; i++) {
                x.lay(0, 2 * i + 1, 6);
            }
            Check.due(pairs + " pairs are answered", clue.by(x, 5, 0) >= 0 ? 1 : 0, 1);
        }
        x.row(0, 18);
        Check.dueFinding("nine pairs", x, () -> clue.by(x, 5, 0), Check.SIZE);
        nothingBehindItsEnd(clue);
    }

    private static void figuresOfPairs(Clue clue) {
        LetterEnds x = Check.posted(SIX);
        for (int[] pair : new int[][] {{0, 6}, {0, 9}, {9, 6}, {9, 9}, {0, 0}, {9, 0}}) {
            Check.rowOf(x, 0, pair);
            int got = clue.by(x, 1, 0);
            Check.due("mood " + pair[0] + ", ended at " + pair[1], got == Check.FINDING || got == Check.BAD ? 1 : 0, 0);
        }
    }

    private static void ofNothing(Clue clue) {
        LetterEnds x = Check.posted(SIX);
        IntBinaryOperator answer = of(x, clue);
        Check.dueFindings("row r", x, Check.NOTHING, r -> answer.applyAsInt(0, r), 0, 5);
        x.row(0, 2);
        x.tear(0);
        Check.dueFinding("torn", x, () -> answer.applyAsInt(0, 0), Check.NOTHING);
    }

    private static void notAsManyAsDue(Clue clue) {
        for (int n : new int[] {1, 3, 15, 17, 18, 39, 40}) {
            LetterEnds x = Check.posted(SIX);
            x.row(0, n);
            Check.dueFinding("a row of " + n, x, () -> clue.by(x, 0, 0), Check.SIZE);
        }
    }

    private static void unlike(Clue clue) {
        for (int v : LESS_OR_MORE) {
            LetterEnds x = Check.posted(SIX);
            Check.rowOf(x, 0, v, 5);
            Check.dueFinding("a mood of " + v, x, () -> clue.by(x, 0, 0), Check.UNLIKE);
            Check.rowOf(x, 0, 5, v);
            Check.dueFinding("ended at " + v, x, () -> clue.by(x, 0, 0), Check.UNLIKE);
            Check.rowOf(x, 0, 0, 0, 9, 9, 5, v);
            Check.dueFinding("the last of three ended at " + v, x, () -> clue.by(x, 0, 0), Check.UNLIKE);
        }
    }

    /** A ROW made smaller has no more of what was there. */
    private static void nothingBehindItsEnd(Clue clue) {
        LetterEnds x = Check.posted(SIX);
        Check.rowOf(x, 0, 0, 6, 77, 77, 1, 0);
        x.row(0, 2);
        x.lay(0, 1, 6);
        Check.due("6 in mood 0, behind a greater row", clue.by(x, 5, 0) >= 0 ? 1 : 0, 1);
        x.row(0, 0);
        Check.due("none, behind a greater row", clue.by(x, 5, 0) >= 0 ? 1 : 0, 1);
    }

    private static void findingsInOrder(Clue clue) {
        LetterEnds x = Check.posted(SIX);
        Check.dueRefused("BAD ahead of NOTHING, the letter", x, () -> clue.by(x, 6, 0), Check.BAD);
        Check.dueRefused("BAD ahead of NOTHING, the row", x, () -> clue.by(x, 0, 6), Check.BAD);
        Check.rowOf(x, 0, 77);
        Check.dueRefused("BAD ahead of SIZE", x, () -> clue.by(x, -1, 0), Check.BAD);
        Check.dueFinding("SIZE ahead of UNLIKE", x, () -> clue.by(x, 0, 0), Check.SIZE);
        Check.rowOf(x, 0, 77, 77);
        Check.dueRefused("BAD ahead of UNLIKE", x, () -> clue.by(x, 6, 0), Check.BAD);
        Check.dueFinding("UNLIKE last", x, () -> clue.by(x, 0, 0), Check.UNLIKE);
    }

    private static void bad(Clue clue) {
        LetterEnds x = Check.posted(SIX);
        x.row(0, 0);
        Check.dueBounds("letter l", x, 0, 5, l -> clue.by(x, l, 0));
        LetterEnds y = Check.posted(SIX);
        Check.dueBounds("row r", y, 0, 5, r -> clue.by(y, 0, r));
        LetterEnds none = new LetterEnds();
        none.row(0, 0);
        Check.dueRefused("without letters", none, () -> clue.by(none, 0, 0), Check.BAD);
    }

    private static void dueMeant(int l, int want, int... pairs) {
        LetterEnds x = Check.posted(SIX);
        Check.rowOf(x, 0, pairs);
        Check.due("meant(" + l + ", 0) by " + java.util.Arrays.toString(pairs), x.meant(l, 0), want);
    }

    private static void meantBits() {
        dueMeant(0, 1023);
        dueMeant(1, 1, 9, 0);
        dueMeant(1, 512, 0, 9);
        dueMeant(0, 3, 0, 0);
        dueMeant(0, 512, 9, 9);
        dueMeant(0, 0, 9, 3);
        dueMeant(2, 1023, 0, 5);
        dueMeant(2, 7, 9, 5);
        dueMeant(2, 0, 9, 4);
        dueMeant(3, 1, 0, 0);
        dueMeant(3, 1023, 9, 9);
        dueMeant(3, 512, 0, 9);
        dueMeant(4, 63, 0, 5);
        dueMeant(4, 512, 0, 9);
        dueMeant(5, 768, 1, 9);
        dueMeant(5, 256, 1, 9, 0, 8);
        dueMeant(5, 0, 1, 9, 0, 7);
        dueMeant(1, 0, 5, 3, 5, 4);
    }

    private static void dueKinds(int l, int want, int... pairs) {
        LetterEnds x = Check.posted("p51h00l00l09l05");
        Check.rowOf(x, 0, pairs);
        Check.due("kinds(" + l + ", 0) by " + java.util.Arrays.toString(pairs), x.kinds(l, 0), want);
    }

    private static void kindsBits() {
        dueKinds(0, 63);
        dueKinds(0, 1 + 2 + 8 + 32, 0, 0);
        dueKinds(0, 4 + 16, 0, 5);
        dueKinds(1, 63, 9, 9);
        dueKinds(1, 2 + 8 + 16 + 32, 0, 9);
        dueKinds(1, 1, 0, 4);
        dueKinds(1, 4, 0, 5);
        dueKinds(2, 63 - 8 - 32, 5, 5);
        dueKinds(2, 2 + 4 + 16, 5, 5, 0, 5);
        dueKinds(2, 8 + 32, 4, 9);
        dueKinds(2, 0, 5, 6);
    }

    private static void dueTest(int l, int mood, int part, int... pairs) {
        LetterEnds x = Check.posted(SIX);
        Check.rowOf(x, 0, pairs);
        String call = "test(" + l + ", 0) by " + java.util.Arrays.toString(pairs);
        Check.due(call, x.test(l, 0), mood);
        Check.due(call + ", asked()", x.asked(), part);
    }

    private static void testFirstMood() {
        dueTest(1, 0, 1);
        dueTest(0, 0, 2);
        // words 8 and 9 are told apart in odd moods
        dueTest(0, 1, 1, 4, 6);
        // a bill of words 3 or 4 ends at 5 by both up to mood 7
        dueTest(2, 8, 1, 9, 6);
        // a bill's words 0 to 2 end at 5 in every mood, those above by twos in mood 9
        dueTest(2, 9, 3);
        dueTest(2, 0, 3, 9, 5);
    }

    private static void testGreatestPart() {
        dueTest(3, 0, 1);
        dueTest(4, 0, 6);
        dueTest(4, 0, 1, 0, 7);
        dueTest(0, 0, 1, 5, 6);
        dueTest(5, 0, 1, 5, 9);
        dueTest(1, 0, 1, 3, 3);
    }

    private static void testOfNoWords() {
        LetterEnds x = Check.posted(SIX);
        Check.rowOf(x, 0, 9, 3);
        Check.dueRefused("a letter at 3 in mood 9", x, () -> x.test(0, 0), Check.NONE);
        Check.dueRefused("a bill at 3", x, () -> x.test(2, 0), Check.NONE);
        Check.due("a telegram at 3", x.test(1, 0), 0);
    }

    private static void dueSets(LetterEnds x, int v, int many, int first) {
        Check.dueAsked("sets(" + v + ")", x, x.sets(v), first);
        Check.due("sets(" + v + "), upper()", x.upper(), many);
        Check.due("sets(" + v + "), lower()", x.lower(), 1);
    }

    private static void setsWithThatOfNone() {
        dueSets(Check.posted("p51h00l01"), 0, 1, 0);
        dueSets(Check.posted("p51h00l00"), 0, 2, 0);
        dueSets(Check.posted("p51h00l00l00l00l00l00l00"), 0, 64, 0);
        LetterEnds x = Check.posted("p51h00l03l03");
        x.carry(0);
        dueSets(x, 3, 2, 1);
    }

    private static void setsAtTheBounds() {
        LetterEnds x = Check.posted("p51h00l09l09l09l09l09l09");
        dueSets(x, 54, 1, 63);
        dueSets(x, 53, 0, Check.NONE);
        dueSets(x, 45, 6, 31);
        dueSets(x, 0, 1, 0);
        dueSets(x, 1, 0, Check.NONE);
    }

    private static void setsToldByUpper() {
        LetterEnds x = Check.posted("p51h00f00f09");
        Check.rowOf(x, 0, 0);
        Check.duePart("a mean ahead", x, x.mid(0, 7), 67, 12);
        dueSets(x, 9, 2, 2);
        Check.duePart("a mean ahead", x, x.mid(0, 7), 67, 12);
        dueSets(x, 54, 0, Check.NONE);
    }

    private static void setsFirst() {
        LetterEnds x = Check.posted("p51h00l04l03l01l04");
        dueSets(x, 4, 3, 1);
        dueSets(x, 8, 3, 7);
        dueSets(x, 12, 1, 15);
        dueSets(x, 13, 0, Check.NONE);
    }

    private static void setsBad() {
        LetterEnds x = Check.posted(SIX);
        Check.dueBounds("sets(v)", x, 0, 54, v -> x.sets(v));
    }

    private static void setsWithoutLetters() {
        LetterEnds x = new LetterEnds();
        Check.dueRefused("sets(0)", x, () -> x.sets(0), Check.STATE);
        Check.dueRefused("sets(54)", x, () -> x.sets(54), Check.STATE);
    }

    private static void dueSure(LetterEnds x, int v, int each, int none) {
        Check.due("sure(" + v + ")", x.sure(v), each);
        Check.due("sure(" + v + "), asked()", x.asked(), none);
    }

    private static void sureInEach() {
        LetterEnds x = Check.posted("p51h00l04l03l01l04");
        dueSure(x, 12, 15, 0);
        dueSure(x, 11, 11, 4);
        dueSure(x, 8, 0, 0);
        dueSure(x, 7, 2, 4);
        dueSure(x, 0, 0, 15);
    }

    private static void sureInNone() {
        LetterEnds x = Check.posted("p51h00l09l09l09l09l09l05");
        dueSure(x, 50, 63, 0);
        dueSure(x, 45, 31, 32);
        dueSure(x, 9, 0, 32);
        dueSure(x, 5, 32, 31);
        LetterEnds one = Check.posted("p51h00l00");
        dueSure(one, 0, 0, 0);
    }

    private static void sureBad() {
        LetterEnds x = Check.posted("p51h00l09l09l09l09l09l09");
        Check.dueBounds("sure(v)", x, 0, 54, v -> x.sure(v));
    }

    private static void sureWithoutLetters() {
        LetterEnds x = new LetterEnds();
        Check.dueRefused("sure(0)", x, () -> x.sure(0), Check.STATE);
        Check.dueRefused("sure(54)", x, () -> x.sure(54), Check.STATE);
    }

    private static void sureOfNoSet() {
        LetterEnds x = Check.posted("p51h00l04l03");
        Check.dueFindings("sure(v)", x, Check.NOUGHT, v -> x.sure(v), 1, 5, 8, 54);
        Check.due("sure(7)", x.sure(7), 3);
    }

    private static void sureInThisOrder() {
        LetterEnds none = new LetterEnds();
        Check.dueRefused("BAD ahead of STATE", none, () -> none.sure(55), Check.BAD);
        Check.dueRefused("STATE ahead of NOUGHT", none, () -> none.sure(1), Check.STATE);
        LetterEnds x = Check.posted("p51h00l04l03");
        Check.dueRefused("BAD ahead of NOUGHT", x, () -> x.sure(55), Check.BAD);
        Check.dueFinding("NOUGHT last", x, () -> x.sure(54), Check.NOUGHT);
    }

    private static void duelOfThoseNotCarried() {
        LetterEnds x = Check.posted("p51h00t09t01t04t02");
        Check.dueAsked("duel(1)", x, x.duel(1), 10);
        x.carry(0);
        Check.dueAsked("the first one carried, duel(1)", x, x.duel(1), 5);
        x.carry(1);
        Check.dueAsked("the second one carried, duel(1)", x, x.duel(1), 6);
        Check.due("it is aside, carried", x.count(7), 3);
        Check.due("it is aside, deeds", x.count(3), 2);
    }

    private static void duelTheyMust() {
        LetterEnds x = Check.posted("p51h00t09");
        Check.dueAsked("one letter, duel(1)", x, x.duel(1), 9);
        Check.dueAsked("one letter, duel(3)", x, x.duel(3), 9);
        x.carry(0);
        Check.dueAsked("none left, duel(3)", x, x.duel(3), 0);
        LetterEnds y = Check.posted("p51h00t09t09");
        Check.dueAsked("the other one must take a warm one", y, y.duel(1), 18);
        LetterEnds z = Check.posted("p51h00t09t08t01");
        Check.dueAsked("and the first one the last", z, z.duel(3), 18);
    }

    private static void duelTimesEach() {
        LetterEnds x = Check.posted("p51h00t01t08t05t03t09t00");
        int[] want = {0, 9, 18, 26};
        for (int n = 0; n <= 3; n++) {
            Check.dueAsked("duel(" + n + ")", x, x.duel(n), want[n]);
        }
    }

    private static void duelMuch() {
        LetterEnds x = Check.posted("p81h00v00t00t06t09");
        // the first one takes a warm telegram at both of his turns, so the love letter comes behind one, in mood 9
        Check.dueAsked("duel(2)", x, x.duel(2), 24);
        // 9 now lifts the love letter to 6, the love letter now leaves the 9
        LetterEnds y = Check.posted("p51h00t09v00");
        Check.dueAsked("looking ahead, duel(1)", y, y.duel(1), 15);
        LetterEnds z = Check.posted("p52h00h00h00v20t00");
        Check.dueAsked("by the walk, duel(1): 7, not 6", z, z.duel(1), 7);
    }

    private static void duelLittle() {
        LetterEnds x = Check.posted("p51h00t06t03t04t09");
        Check.dueAsked("duel(1): 9 and 3", x, x.duel(1), 12);
        LetterEnds y = Check.posted("p50h00h00h00h00v30f20t05");
        // 5, then the love letter in mood 2 rather than the French one in mood 3
        Check.dueAsked("by the walk, duel(1)", y, y.duel(1), 7);
    }

    private static void duelBad() {
        LetterEnds x = Check.posted(SIX);
        Check.dueBounds("duel(n)", x, 0, 3, n -> x.duel(n));
        LetterEnds none = new LetterEnds();
        Check.dueRefused("without letters, duel(-1)", none, () -> none.duel(-1), Check.BAD);
    }

    private static void duelWithoutLetters() {
        LetterEnds x = new LetterEnds();
        Check.dueRefused("duel(0)", x, () -> x.duel(0), Check.STATE);
        Check.dueRefused("duel(3)", x, () -> x.duel(3), Check.STATE);
    }
}
