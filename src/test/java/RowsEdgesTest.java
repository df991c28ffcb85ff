/** ROWS and TEXTS, promises 1 to 9, sentence by sentence. */
public final class RowsEdgesTest {
    private static final int LEAST = Check.LEAST, MOST = Check.MOST;

    public static void main(String[] args) {
        Sentences.between("1 ROWS", "```text");
        Sentences.holds("1 ROWS 0 .. 5 are rows of 0 to 40 ints", RowsEdgesTest::sixRows);
        Sentences.holds("TEXTS 0 .. 3 rows of 0 to 60 bytes", RowsEdgesTest::fourTexts);
        Sentences.holds("or missing (at first)", RowsEdgesTest::missingAtFirst);
        Sentences.under("Promise 1: A new object");
        Sentences.holds("No ROWS, TEXTS, HOUSES, LETTERS", RowsEdgesTest::newObject);
        rowSentences();
        placeSentences();
        copySentences();
        meanSentences();
        textSentences();
        Sentences.finish();
    }

    private static void rowSentences() {
        Sentences.under("Promise 2: row");
        Sentences.holds("A ROW is there with n ints 0: n", RowsEdgesTest::rowOfNoughts);
        Sentences.holds("BAD: also n above 40", RowsEdgesTest::rowBad);
        Sentences.holds("SIZE: below 0", RowsEdgesTest::rowBelowNought);
        Sentences.under("Promise 5: tear");
        Sentences.holds("A ROW is missing: 1", RowsEdgesTest::tearsRows);
        Sentences.holds("BAD", RowsEdgesTest::tearBad);
        Sentences.holds("NOTHING", RowsEdgesTest::tearOfNothing);
    }

    private static void placeSentences() {
        Sentences.under("Promise 3: lay");
        Sentences.holds("Place i of a ROW is v: what it was, told by asked(): 1", RowsEdgesTest::laysAtBothEnds);
        Sentences.holds("BAD", RowsEdgesTest::layBad);
        Sentences.holds("NOTHING", RowsEdgesTest::layOnNothing);
        Sentences.holds("BEYOND", RowsEdgesTest::layBeyond);
        Sentences.under("Promise 4: at");
        Sentences.holds("Place i of a ROW, told by asked(): 1", RowsEdgesTest::atBothEnds);
        Sentences.holds("BAD", RowsEdgesTest::atBad);
        Sentences.holds("NOTHING", RowsEdgesTest::atNothing);
        Sentences.holds("BEYOND", RowsEdgesTest::atBeyond);
    }

    private static void copySentences() {
        Sentences.under("Promise 6: copy");
        Sentences.holds("n places of a ROW, from one on, come to those of another one", RowsEdgesTest::copies);
        Sentences.holds("(perhaps itself) from one on, as if taken ahead: 1", RowsEdgesTest::copiesWithinItself);
        Sentences.holds("BAD", RowsEdgesTest::copyBad);
        Sentences.holds("SIZE: n below 0", RowsEdgesTest::copyBelowNought);
        Sentences.holds("NOTHING: either", RowsEdgesTest::copyOfNothing);
        Sentences.holds("BEYOND: not so many there", RowsEdgesTest::copyBeyond);
        Sentences.holds("(with n 0, too, if i or j is below 0 or above the size)", RowsEdgesTest::copyOfNoneBeyond);
        Sentences.holds("(In this order.)", RowsEdgesTest::copyInThisOrder);
    }

    private static void meanSentences() {
        Sentences.under("Promise 7: mean");
        Sentences.holds("The mean of a ROW's ints, cut, told by asked(): 1", RowsEdgesTest::means);
        Sentences.holds("BAD", RowsEdgesTest::meanBad);
        Sentences.holds("NOTHING", RowsEdgesTest::meanOfNothing);
        Sentences.holds("NOUGHT", RowsEdgesTest::meanOfNone);
    }

    private static void textSentences() {
        Sentences.under("Promise 8: text");
        Sentences.holds("A TEXT is there with n blanks: n", RowsEdgesTest::textOfBlanks);
        Sentences.holds("BAD: also n above 60", RowsEdgesTest::textBad);
        Sentences.holds("SIZE: below 0", RowsEdgesTest::textBelowNought);
        Sentences.under("Promise 9: put");
        Sentences.holds("Byte i of a TEXT is v", RowsEdgesTest::putsAtBothEnds);
        Sentences.holds("cut to a byte (-128 .. 127)", RowsEdgesTest::putCutsToAByte);
        Sentences.holds("what it was, and 1000 more", RowsEdgesTest::putTellsWhatItWas);
        Sentences.holds("BAD", RowsEdgesTest::putBad);
        Sentences.holds("NOTHING", RowsEdgesTest::putOnNothing);
        Sentences.holds("BEYOND", RowsEdgesTest::putBeyond);
    }

    private static void sixRows() {
        LetterEnds x = new LetterEnds();
        Check.dueBounds("row(r, 1)", x, 0, 5, r -> x.row(r, 1));
        for (int r = 0; r <= 5; r++) {
            Check.due("row(" + r + ", 40)", x.row(r, 40), 40);
            Check.dueAsked("its last place", x, x.lay(r, 39, r == 5 ? LEAST : MOST), 0);
            Check.due("row(" + r + ", 0)", x.row(r, r), r);
        }
        Check.due("rows that are there", x.count(11), 6);
        Check.dueFinding("row 0 has no place", x, () -> x.at(0, 0), Check.BEYOND);
        Check.dueAsked("row 5 has five", x, x.at(5, 4), 0);
    }

    private static void fourTexts() {
        LetterEnds x = new LetterEnds();
        Check.dueBounds("text(t, 1)", x, 0, 3, t -> x.text(t, 1));
        for (int t = 0; t <= 3; t++) {
            Check.due("text(" + t + ", 60)", x.text(t, 60), 60);
            Check.due("its last place", x.put(t, 59, 120), 1032);
            Check.due("text(" + t + ", 0)", x.text(t, t), t);
        }
        Check.due("texts that are there", x.count(12), 4);
        Check.dueFinding("text 0 has no place", x, () -> x.put(0, 0, 1), Check.BEYOND);
        Check.due("text 3 has three", x.put(3, 2, 1), 1032);
    }

    private static void missingAtFirst() {
        LetterEnds x = new LetterEnds();
        Check.dueFindings("at(r, 0)", x, Check.NOTHING, r -> x.at(r, 0), 0, 1, 2, 3, 4, 5);
        LetterEnds y = new LetterEnds();
        Check.dueFindings("put(t, 0, 0)", y, Check.NOTHING, t -> y.put(t, 0, 0), 0, 1, 2, 3);
        y.row(2, 0);
        y.text(1, 0);
        Check.due("an empty row is not missing", y.count(11), 1);
        Check.due("an empty text is not missing", y.count(12), 1);
    }

    private static void newObject() {
        LetterEnds x = new LetterEnds();
        for (int what : new int[] {11, 12, 0, 1}) {
            Check.due("new, count(" + what + ")", x.count(what), 0);
        }
        Check.dueRefused("new, house(0, 0)", x, () -> x.house(0, 0), Check.BAD);
        Check.dueRefused("new, letter(0, 0)", x, () -> x.letter(0, 0), Check.BAD);
        Check.dueRefused("new, carry(0)", x, () -> x.carry(0), Check.BAD);
        LetterEnds y = Check.posted(Check.SIX);
        Check.due("another object has its own", y.count(1), 6);
        Check.due("this one has none", x.count(1), 0);
    }

    private static void rowOfNoughts() {
        LetterEnds x = new LetterEnds();
        for (int n : new int[] {0, 1, 40}) {
            Check.due("row(3, " + n + ")", x.row(3, n), n);
        }
        for (int i = 0; i < 40; i++) {
            Check.dueAsked("at(3, " + i + ")", x, x.at(3, i), 0);
            x.lay(3, i, i + 1);
        }
        Check.due("row(3, 2) of a greater one", x.row(3, 2), 2);
        Check.dueRow("row(3, 2)", x, 3, 0, 0);
        Check.due("row(3, 3) of a smaller one", x.row(3, 3), 3);
        Check.dueRow("row(3, 3): nothing of before", x, 3, 0, 0, 0);
        x.tear(3);
        Check.due("row(3, 1) of a torn one", x.row(3, 1), 1);
        Check.dueRow("row(3, 1)", x, 3, 0);
    }

    private static void rowBad() {
        LetterEnds x = new LetterEnds();
        Check.rowOf(x, 0, 7);
        Check.dueRefused("row(0, 41)", x, () -> x.row(0, 41), Check.BAD);
        Check.dueRefused("row(0, most)", x, () -> x.row(0, MOST), Check.BAD);
        Check.dueRow("what was there stays", x, 0, 7);
        Check.due("row(0, 40)", x.row(0, 40), 40);
        Check.dueBounds("row(r, 0)", x, 0, 5, r -> x.row(r, 0));
    }

    private static void rowBelowNought() {
        LetterEnds x = new LetterEnds();
        Check.rowOf(x, 5, 7);
        Check.dueFindings("row(5, n)", x, Check.SIZE, n -> x.row(5, n), -1, -41, LEAST);
        Check.dueRow("what was there stays", x, 5, 7);
        Check.dueFinding("a missing one", x, () -> x.row(0, -1), Check.SIZE);
        Check.due("it stays missing", x.count(11), 1);
        Check.due("row(5, 0)", x.row(5, 0), 0);
    }

    private static void laysAtBothEnds() {
        LetterEnds x = new LetterEnds();
        x.row(1, 40);
        Check.dueAsked("lay(1, 0, most)", x, x.lay(1, 0, MOST), 0);
        Check.dueAsked("lay(1, 0, least)", x, x.lay(1, 0, LEAST), MOST);
        Check.dueAsked("lay(1, 39, 5)", x, x.lay(1, 39, 5), 0);
        Check.dueAsked("lay(1, 39, -9)", x, x.lay(1, 39, -9), 5);
        Check.dueAsked("at(1, 0)", x, x.at(1, 0), LEAST);
        Check.dueAsked("at(1, 39)", x, x.at(1, 39), -9);
        Check.dueAsked("the place beside it", x, x.at(1, 38), 0);
        x.row(2, 1);
        Check.dueAsked("a row of one", x, x.lay(2, 0, 3), 0);
    }

    private static void layBad() {
        LetterEnds x = new LetterEnds();
        x.row(0, 1);
        x.row(5, 1);
        Check.dueBounds("lay(r, 0, 1)", x, 0, 5, r -> x.lay(r, 0, 1));
    }

    private static void layOnNothing() {
        LetterEnds x = new LetterEnds();
        x.row(4, 1);
        Check.dueFinding("lay(3, 0, 1)", x, () -> x.lay(3, 0, 1), Check.NOTHING);
        Check.dueFinding("lay(3, -1, 1)", x, () -> x.lay(3, -1, 1), Check.NOTHING);
        x.tear(4);
        Check.dueFinding("torn, lay(4, 0, 1)", x, () -> x.lay(4, 0, 1), Check.NOTHING);
    }

    private static void layBeyond() {
        LetterEnds x = new LetterEnds();
        x.row(0, 0);
        x.row(1, 3);
        x.row(2, 40);
        Check.dueFindings("lay(0, i, 1)", x, Check.BEYOND, i -> x.lay(0, i, 1), 0, -1);
        Check.dueFindings("lay(1, i, 1)", x, Check.BEYOND, i -> x.lay(1, i, 1), -1, 3, 39, LEAST, MOST);
        Check.dueFindings("lay(2, i, 1)", x, Check.BEYOND, i -> x.lay(2, i, 1), -1, 40);
    }

    private static void atBothEnds() {
        LetterEnds x = new LetterEnds();
        Check.rowOf(x, 0, LEAST, 8, MOST);
        Check.dueAsked("at(0, 0)", x, x.at(0, 0), LEAST);
        Check.dueAsked("at(0, 2)", x, x.at(0, 2), MOST);
        Check.dueAsked("it stays", x, x.at(0, 2), MOST);
    }

    private static void atBad() {
        LetterEnds x = new LetterEnds();
        x.row(0, 1);
        x.row(5, 1);
        Check.dueBounds("at(r, 0)", x, 0, 5, r -> x.at(r, 0));
    }

    private static void atNothing() {
        LetterEnds x = new LetterEnds();
        Check.dueFinding("at(3, 0)", x, () -> x.at(3, 0), Check.NOTHING);
        Check.dueFinding("at(3, 40)", x, () -> x.at(3, 40), Check.NOTHING);
        x.row(3, 1);
        x.tear(3);
        Check.dueFinding("torn, at(3, 0)", x, () -> x.at(3, 0), Check.NOTHING);
    }

    private static void atBeyond() {
        LetterEnds x = new LetterEnds();
        x.row(0, 0);
        x.row(1, 3);
        x.row(2, 40);
        Check.dueFindings("at(0, i)", x, Check.BEYOND, i -> x.at(0, i), 0, -1);
        Check.dueFindings("at(1, i)", x, Check.BEYOND, i -> x.at(1, i), -1, 3, 39, LEAST, MOST);
        Check.dueFindings("at(2, i)", x, Check.BEYOND, i -> x.at(2, i), -1, 40);
    }

    private static void tearsRows() {
        LetterEnds x = new LetterEnds();
        x.row(0, 0);
        x.row(5, 40);
        Check.due("tear(0) of an empty one", x.tear(0), 1);
        Check.due("the other one stays", x.count(11), 1);
        Check.due("tear(5) of a full one", x.tear(5), 1);
        Check.due("none is there", x.count(11), 0);
    }

    private static void tearBad() {
        LetterEnds x = new LetterEnds();
        x.row(0, 1);
        x.row(5, 1);
        Check.dueBounds("tear(r)", x, 0, 5, r -> x.tear(r));
    }

    private static void tearOfNothing() {
        LetterEnds x = new LetterEnds();
        Check.dueFinding("tear(2)", x, () -> x.tear(2), Check.NOTHING);
        x.row(2, 1);
        x.tear(2);
        Check.dueFinding("tear(2) again", x, () -> x.tear(2), Check.NOTHING);
    }

    private static LetterEnds twoRows() {
        LetterEnds x = new LetterEnds();
        Check.rowOf(x, 0, 1, 2, 3, 4);
        Check.rowOf(x, 5, 8, 9);
        return x;
    }

    private static void copies() {
        LetterEnds x = twoRows();
        Check.due("all of the smaller one", x.copy(5, 0, 0, 2, 2), 1);
        Check.dueRow("the greater one", x, 0, 1, 2, 8, 9);
        Check.due("the last to the first", x.copy(0, 3, 5, 0, 1), 1);
        Check.dueRow("the smaller one", x, 5, 9, 9);
        x.row(1, 40);
        x.row(2, 40);
        x.lay(1, 39, LEAST);
        Check.due("forty", x.copy(1, 0, 2, 0, 40), 1);
        Check.dueAsked("the fortieth", x, x.at(2, 39), LEAST);
        Check.due("none", x.copy(0, 0, 5, 0, 0), 1);
        Check.dueRow("nothing came", x, 5, 9, 9);
    }

    private static void copiesWithinItself() {
        LetterEnds x = twoRows();
        Check.due("one further on", x.copy(0, 0, 0, 1, 3), 1);
        Check.dueRow("one further on", x, 0, 1, 1, 2, 3);
        Check.due("one back", x.copy(0, 1, 0, 0, 3), 1);
        Check.dueRow("one back", x, 0, 1, 2, 3, 3);
        Check.due("on itself", x.copy(0, 0, 0, 0, 4), 1);
        Check.dueRow("on itself", x, 0, 1, 2, 3, 3);
    }

    private static void copyBad() {
        LetterEnds x = twoRows();
        Check.dueBounds("copy(r, 0, 0, 0, 1)", x, 0, 5, r -> x.copy(r, 0, 0, 0, 1));
        LetterEnds y = twoRows();
        Check.dueBounds("copy(0, 0, to, 0, 1)", y, 0, 5, to -> y.copy(0, 0, to, 0, 1));
    }

    private static void copyBelowNought() {
        LetterEnds x = twoRows();
        Check.dueFindings("copy(0, 1, 5, 1, n)", x, Check.SIZE, n -> x.copy(0, 1, 5, 1, n), -1, -4, LEAST);
    }

    private static void copyOfNothing() {
        LetterEnds x = twoRows();
        Check.dueFinding("copy(1, 0, 0, 0, 1)", x, () -> x.copy(1, 0, 0, 0, 1), Check.NOTHING);
        Check.dueFinding("copy(0, 0, 1, 0, 1)", x, () -> x.copy(0, 0, 1, 0, 1), Check.NOTHING);
        Check.dueFinding("copy(1, 0, 1, 0, 0)", x, () -> x.copy(1, 0, 1, 0, 0), Check.NOTHING);
    }

    private static void copyBeyond() {
        LetterEnds x = twoRows();
        Check.dueFindings("copy(0, i, 5, 0, 2)", x, Check.BEYOND, i -> x.copy(0, i, 5, 0, 2), -1, 3, 4, LEAST, MOST);
        Check.dueFindings("copy(5, 0, 0, j, 2)", x, Check.BEYOND, j -> x.copy(5, 0, 0, j, 2), -1, 3, 4, LEAST, MOST);
        LetterEnds y = twoRows();
        Check.dueFindings("copy(0, 0, 5, 0, n)", y, Check.BEYOND, n -> y.copy(0, 0, 5, 0, n), 3, 40, 41, MOST);
        Check.dueFindings("copy(5, 0, 0, 0, n)", y, Check.BEYOND, n -> y.copy(5, 0, 0, 0, n), 3, 40, 41, MOST);
        Check.dueFinding("copy(0, 2, 0, 2, most)", y, () -> y.copy(0, 2, 0, 2, MOST), Check.BEYOND);
    }

    private static void copyOfNoneBeyond() {
        LetterEnds x = twoRows();
        Check.dueFindings("copy(0, i, 5, 0, 0)", x, Check.BEYOND, i -> x.copy(0, i, 5, 0, 0), -1, 5, LEAST, MOST);
        Check.dueFindings("copy(5, 0, 0, j, 0)", x, Check.BEYOND, j -> x.copy(5, 0, 0, j, 0), -1, 5, LEAST, MOST);
        Check.due("at the size of both", x.copy(0, 4, 5, 2, 0), 1);
        x.row(1, 0);
        Check.due("of an empty row", x.copy(1, 0, 1, 0, 0), 1);
        Check.dueFinding("behind an empty row", x, () -> x.copy(1, 1, 0, 0, 0), Check.BEYOND);
    }

    private static void copyInThisOrder() {
        LetterEnds x = twoRows();
        Check.dueRefused("BAD first", x, () -> x.copy(6, 9, 1, 9, -1), Check.BAD);
        Check.dueRefused("BAD first, the other", x, () -> x.copy(1, 9, 6, 9, -1), Check.BAD);
        Check.dueFinding("then SIZE", x, () -> x.copy(1, 9, 2, 9, -1), Check.SIZE);
        Check.dueFinding("then NOTHING", x, () -> x.copy(1, 9, 0, 9, 9), Check.NOTHING);
        Check.dueFinding("then NOTHING, the other", x, () -> x.copy(0, 9, 1, 9, 9), Check.NOTHING);
        Check.dueFinding("BEYOND last", x, () -> x.copy(0, 9, 5, 9, 9), Check.BEYOND);
    }

    private static void means() {
        LetterEnds x = new LetterEnds();
        Check.rowOf(x, 0, 5);
        Check.dueAsked("of one", x, x.mean(0), 5);
        Check.rowOf(x, 0, 1, 2, 2);
        Check.dueAsked("of 5 by 3", x, x.mean(0), 1);
        Check.rowOf(x, 0, -1, -2, -2);
        Check.dueAsked("of -5 by 3", x, x.mean(0), -1);
        Check.rowOf(x, 0, -1, 0);
        Check.dueAsked("of -1 by 2", x, x.mean(0), 0);
        Check.rowOf(x, 0, MOST, MOST);
        Check.dueAsked("of a sum above all ints", x, x.mean(0), MOST);
        Check.rowOf(x, 0, LEAST, LEAST, LEAST);
        Check.dueAsked("of a sum below all ints", x, x.mean(0), LEAST);
        Check.rowOf(x, 0, LEAST, MOST);
        Check.dueAsked("of both", x, x.mean(0), 0);
        x.row(0, 40);
        x.lay(0, 39, 120);
        Check.dueAsked("of forty", x, x.mean(0), 3);
    }

    private static void meanBad() {
        LetterEnds x = twoRows();
        Check.dueBounds("mean(r)", x, 0, 5, r -> x.mean(r));
    }

    private static void meanOfNothing() {
        LetterEnds x = twoRows();
        Check.dueFinding("mean(1)", x, () -> x.mean(1), Check.NOTHING);
        x.tear(5);
        Check.dueFinding("torn, mean(5)", x, () -> x.mean(5), Check.NOTHING);
    }

    private static void meanOfNone() {
        LetterEnds x = twoRows();
        x.row(5, 0);
        Check.dueFinding("mean(5)", x, () -> x.mean(5), Check.NOUGHT);
        x.row(5, 1);
        Check.dueAsked("mean(5) of a 0", x, x.mean(5), 0);
    }

    private static void textOfBlanks() {
        LetterEnds x = new LetterEnds();
        for (int n : new int[] {0, 1, 60}) {
            Check.due("text(2, " + n + ")", x.text(2, n), n);
        }
        for (int i = 0; i < 60; i++) {
            Check.due("put(2, " + i + ", 1)", x.put(2, i, 1), 1032);
        }
        Check.due("text(2, 1) of a greater one", x.text(2, 1), 1);
        Check.due("text(2, 60) of a smaller one", x.text(2, 60), 60);
        Check.due("nothing of before, first", x.put(2, 0, 1), 1032);
        Check.due("nothing of before, last", x.put(2, 59, 1), 1032);
    }

    private static void textBad() {
        LetterEnds x = new LetterEnds();
        x.text(0, 1);
        Check.dueRefused("text(0, 61)", x, () -> x.text(0, 61), Check.BAD);
        Check.dueRefused("text(0, most)", x, () -> x.text(0, MOST), Check.BAD);
        Check.due("text(0, 60)", x.text(0, 60), 60);
        Check.dueBounds("text(t, 0)", x, 0, 3, t -> x.text(t, 0));
    }

    private static void textBelowNought() {
        LetterEnds x = new LetterEnds();
        x.text(3, 2);
        Check.dueFindings("text(3, n)", x, Check.SIZE, n -> x.text(3, n), -1, -61, LEAST);
        Check.due("what was there stays", x.put(3, 1, 1), 1032);
        Check.dueFinding("a missing one", x, () -> x.text(0, -1), Check.SIZE);
        Check.due("it stays missing", x.count(12), 1);
    }

    private static void putsAtBothEnds() {
        LetterEnds x = new LetterEnds();
        x.text(0, 60);
        Check.due("put(0, 0, 65)", x.put(0, 0, 65), 1032);
        Check.due("put(0, 59, 66)", x.put(0, 59, 66), 1032);
        Check.due("put(0, 0, 67)", x.put(0, 0, 67), 1065);
        Check.due("put(0, 59, 68)", x.put(0, 59, 68), 1066);
        Check.due("the place beside it", x.put(0, 58, 1), 1032);
    }

    private static void putCutsToAByte() {
        int[] put = {127, 128, 255, 256, 32 + 256, -128, -129, -256, LEAST, MOST};
        int[] is = {127, -128, -1, 0, 32, -128, 127, 0, 0, -1};
        LetterEnds x = new LetterEnds();
        x.text(0, 1);
        for (int i = 0; i < put.length; i++) {
            x.put(0, 0, put[i]);
            Check.due("what " + put[i] + " is cut to", x.put(0, 0, 1), 1000 + is[i]);
        }
        Check.write(x, 1, "p00h00l00");
        x.put(1, 0, 'p' + 512);
        Check.due("a sign is by its cut byte", x.fault(1), Check.NONE);
    }

    private static void putTellsWhatItWas() {
        LetterEnds x = new LetterEnds();
        x.text(0, 1);
        x.row(0, 1);
        x.lay(0, 0, 7);
        Check.due("of a blank", x.put(0, 0, -128), 1032);
        Check.due("of the least", x.put(0, 0, 127), 872);
        Check.due("of the most", x.put(0, 0, 0), 1127);
        Check.due("of 0", x.put(0, 0, 0), 1000);
        Check.due("asked() is not told", x.asked(), 0);
    }

    private static void putBad() {
        LetterEnds x = new LetterEnds();
        x.text(0, 1);
        x.text(3, 1);
        Check.dueBounds("put(t, 0, 1)", x, 0, 3, t -> x.put(t, 0, 1));
    }

    private static void putOnNothing() {
        LetterEnds x = new LetterEnds();
        x.text(1, 1);
        Check.dueFinding("put(0, 0, 1)", x, () -> x.put(0, 0, 1), Check.NOTHING);
        Check.dueFinding("put(3, -1, 1)", x, () -> x.put(3, -1, 1), Check.NOTHING);
    }

    private static void putBeyond() {
        LetterEnds x = new LetterEnds();
        x.text(0, 0);
        x.text(1, 3);
        x.text(2, 60);
        Check.dueFindings("put(0, i, 1)", x, Check.BEYOND, i -> x.put(0, i, 1), 0, -1);
        Check.dueFindings("put(1, i, 1)", x, Check.BEYOND, i -> x.put(1, i, 1), -1, 3, 59, LEAST, MOST);
        Check.dueFindings("put(2, i, 1)", x, Check.BEYOND, i -> x.put(2, i, 1), -1, 60);
    }
}
