import java.util.function.ToIntFunction;

/** The document's Terms, ANSWERS, sentence by sentence: how it is refused, in which order, what that changes. */
public final class AnswersEdgesTest {
    private static final int MISSING = 5;

    public static void main(String[] args) {
        Sentences.between("ANSWERS. ", "======== 1 ");
        Sentences.holds("ANSWERS. Refused is, the first of these that fits, in this order", AnswersEdgesTest::order);
        Sentences.holds("BAD -1 (a number that is none, or not as told)", AnswersEdgesTest::bad);
        Sentences.holds("FULL -2", AnswersEdgesTest::full);
        Sentences.holds("STATE -4 (not now)", AnswersEdgesTest::state);
        Sentences.holds("SPENT -6 (more than told)", () -> Check.due("SPENT", LetterEnds.SPENT, -6));
        Sentences.holds("FINDING -3 (finding() tells which)", AnswersEdgesTest::finding);
        Sentences.holds("unless a call says so otherwise", AnswersEdgesTest::otherwise);
        Sentences.holds("NONE -9 (as an answer: a ROW that would come anew stays)", AnswersEdgesTest::none);
        Sentences.holds("What is refused changes nothing but finding(), findings()", AnswersEdgesTest::refusedChangesNothing);
        Sentences.holds("FINDINGS: 1 NOTHING (a ROW, a TEXT, a kept POST that is missing)", AnswersEdgesTest::nothing);
        Sentences.holds("2 BEYOND (a place of a ROW, a TEXT that there is not)", AnswersEdgesTest::beyond);
        Sentences.holds("3 UNLIKE (a LETTER of another KIND; a number that is none)", AnswersEdgesTest::unlike);
        Sentences.holds("4 NOUGHT (shared among none; nothing fits)", AnswersEdgesTest::nought);
        Sentences.holds("5 SIZE (fewer than none; too many, not as many as due)", AnswersEdgesTest::size);
        Sentences.holds("Chances, means, numbers of sets are told by upper(), lower()", AnswersEdgesTest::parts);
        Sentences.holds("in lowest terms", AnswersEdgesTest::lowestTerms);
        Sentences.holds("the lower number above 0 (0 by 1)", AnswersEdgesTest::noughtByOne);
        Sentences.holds("Sets (of LETTERS, of KINDS, of WORDS 0 .. 9) are told by bits", AnswersEdgesTest::bits);
        Sentences.finish();
    }

    private static void order() {
        badAheadOfFull();
        badAheadOfState();
        badAheadOfFinding();
        LetterEnds x = new LetterEnds();
        Check.dueRefused("without letters, sure(1): STATE ahead of NOUGHT", x, () -> x.sure(1), Check.STATE);
    }

    private static void badAheadOfFull() {
        LetterEnds x = Check.posted(Check.SIX);
        x.lots(20, 1);
        x.lots(20, 2);
        Check.dueRefused("full, carry(6)", x, () -> x.carry(6), Check.BAD);
        Check.dueRefused("full, bribe(0)", x, () -> x.bribe(0), Check.BAD);
        Check.dueRefused("full, bribe(10)", x, () -> x.bribe(10), Check.BAD);
        Check.dueRefused("full, weather(3)", x, () -> x.weather(3), Check.BAD);
        Check.dueRefused("full, lots(0, 1)", x, () -> x.lots(0, 1), Check.BAD);
        Check.dueRefused("full, lots(1, 0)", x, () -> x.lots(1, 0), Check.BAD);
        Check.dueRefused("full, undo(41)", x, () -> x.undo(41), Check.BAD);
    }

    private static void badAheadOfState() {
        LetterEnds x = new LetterEnds();
        Check.dueRefused("without letters, bribe(10)", x, () -> x.bribe(10), Check.BAD);
        Check.dueRefused("without letters, weather(3)", x, () -> x.weather(3), Check.BAD);
        Check.dueRefused("without letters, keep(3)", x, () -> x.keep(3), Check.BAD);
        Check.dueRefused("without letters, sets(55)", x, () -> x.sets(55), Check.BAD);
        Check.dueRefused("without letters, sure(55)", x, () -> x.sure(55), Check.BAD);
        Check.dueRefused("without letters, duel(4)", x, () -> x.duel(4), Check.BAD);
        Check.dueRefused("without letters, lots(21, 1)", x, () -> x.lots(21, 1), Check.BAD);
        Check.dueRefused("without letters, lots(1, 0)", x, () -> x.lots(1, 0), Check.BAD);
        Check.dueRefused("without letters, carry(0)", x, () -> x.carry(0), Check.BAD);
        LetterEnds y = Check.posted("p51h00l00");
        y.carry(0);
        Check.dueRefused("carried, round(3, 0)", y, () -> y.round(3, 0), Check.BAD);
        Check.dueRefused("carried, round(1, 6)", y, () -> y.round(1, 6), Check.BAD);
    }

    private static void badAheadOfFinding() {
        dueBad("row(6, -1)", x -> x.row(6, -1));
        dueBad("text(4, -1)", x -> x.text(4, -1));
        dueBad("lay(6, -1, 0)", x -> x.lay(6, -1, 0));
        dueBad("at(-1, -1)", x -> x.at(-1, -1));
        dueBad("put(4, -1, 0)", x -> x.put(4, -1, 0));
        dueBad("copy(5, 0, 6, 0, -1)", x -> x.copy(MISSING, 0, 6, 0, -1));
        dueBad("copy(-1, 0, 5, 0, 1)", x -> x.copy(-1, 0, MISSING, 0, 1));
        dueBad("mark(0, 0)", x -> x.mark(0, 0));
        dueBad("mark(0, 6)", x -> x.mark(0, 6));
        dueBad("rest(3, 0, 5)", x -> x.rest(3, 0, MISSING));
        dueBad("rest(0, 21, 5)", x -> x.rest(0, 21, MISSING));
        dueBad("meant(6, 5)", x -> x.meant(6, MISSING));
        dueBad("kinds(-1, 5)", x -> x.kinds(-1, MISSING));
        dueBad("test(6, 5)", x -> x.test(6, MISSING));
        dueBad("sure(55)", x -> x.sure(55));
        dueBad("odds(5, 55, 0)", x -> x.odds(MISSING, 55, 0));
        dueBad("odds(5, 0, 13)", x -> x.odds(MISSING, 0, 13));
        dueBad("mid(5, 13)", x -> x.mid(MISSING, 13));
    }

    private static void dueBad(String call, ToIntFunction<LetterEnds> answer) {
        due(call, answer, Check.BAD);
    }

    /** Something of all that a call could change: told numbers, a carried letter, a kept post, rows, texts. */
    private static LetterEnds laden() {
        LetterEnds x = Check.posted(Check.SIX);
        x.carry(3);
        x.keep(1);
        x.text(2, 4);
        Check.rowOf(x, 0, 5, 6);
        x.row(1, 0);
        Check.rowOf(x, 2, 1, 2, 3, 4, 5, 0, 0);
        Check.rowOf(x, 4, 0);
        x.mid(4, 5);
        x.house(0, 0);
        return x;
    }

    private static void due(String call, ToIntFunction<LetterEnds> answer, int want) {
        LetterEnds x = laden();
        Check.dueRefused(call, x, () -> answer.applyAsInt(x), want);
    }

    private static void dueFinding(String call, ToIntFunction<LetterEnds> answer, int which) {
        LetterEnds x = laden();
        Check.dueFinding(call, x, () -> answer.applyAsInt(x), which);
    }

    private static void bad() {
        Check.due("BAD", LetterEnds.BAD, -1);
        dueBad("row(6, 1): a number that is none", x -> x.row(6, 1));
        dueBad("row(0, 41): not as told", x -> x.row(0, 41));
    }

    private static void full() {
        Check.due("FULL", LetterEnds.FULL, -2);
        LetterEnds x = Check.posted(Check.SIX);
        x.lots(20, 1);
        x.lots(20, 2);
        Check.dueRefused("the 41st deed", x, () -> x.day(), -2);
    }

    private static void state() {
        Check.due("STATE", LetterEnds.STATE, -4);
        LetterEnds x = Check.posted(Check.SIX);
        x.carry(0);
        Check.dueRefused("carry(0) again", x, () -> x.carry(0), -4);
        x.day();
        Check.due("carry(0) on another day", x.carry(0), 5);
    }

    private static void finding() {
        Check.due("FINDING", LetterEnds.FINDING, -3);
        LetterEnds x = new LetterEnds();
        Check.due("tear(0)", x.tear(0), -3);
        Check.due("tear(0), finding()", x.finding(), 1);
        x.row(0, 0);
        Check.due("mean(0)", x.mean(0), -3);
        Check.due("mean(0), finding()", x.finding(), 4);
    }

    private static void otherwise() {
        LetterEnds x = Check.posted("p91h00t05t05");
        x.carry(0);
        for (int i = 1; i < 40; i++) {
            x.weather(x.count(5) == 0 ? 2 : 0);
        }
        Check.due("deeds", x.count(3), 40);
        Check.dueRefused("full and carried, carry(0)", x, () -> x.carry(0), Check.STATE);
        Check.dueRefused("full and at 9, bribe(1)", x, () -> x.bribe(1), Check.STATE);
        Check.dueRefused("full and so, weather()", x, () -> x.weather(x.count(5)), Check.STATE);
        Check.dueRefused("full, carry(1)", x, () -> x.carry(1), Check.FULL);
        Check.dueRefused("full, weather(1)", x, () -> x.weather(1), Check.FULL);
        LetterEnds y = new LetterEnds();
        Check.dueFinding("post(0) of none: NOTHING ahead of STATE", y, () -> y.post(0), Check.NOTHING);
        Check.dueFinding("copy of a missing row: SIZE ahead of NOTHING", y, () -> y.copy(0, 0, 1, 0, -1), Check.SIZE);
    }

    private static void none() {
        Check.due("NONE", LetterEnds.NONE, -9);
        LetterEnds x = laden();
        Check.due("plan(1, 20, 0)", x.plan(1, 20, 0), -9);
        Check.dueRow("plan(1, 20, 0)", x, 0, 5, 6);
        Check.due("plan(1, 20, 5)", x.plan(1, 20, MISSING), -9);
        Check.dueFinding("the row is still missing", x, () -> x.at(MISSING, 0), Check.NOTHING);
    }

    private static void refusedChangesNothing() {
        badChangesNothing();
        stateAndNoneChangeNothing();
        findingsOfRowsAndTextsChangeNothing();
        findingsOfLettersChangeNothing();
    }

    private static void badChangesNothing() {
        dueBad("row(0, 41)", x -> x.row(0, 41));
        dueBad("lay(6, 0, 1)", x -> x.lay(6, 0, 1));
        dueBad("at(6, 0)", x -> x.at(6, 0));
        dueBad("tear(6)", x -> x.tear(6));
        dueBad("copy(0, 0, 6, 0, 1)", x -> x.copy(0, 0, 6, 0, 1));
        dueBad("mean(6)", x -> x.mean(6));
        dueBad("text(0, 61)", x -> x.text(0, 61));
        dueBad("put(4, 0, 1)", x -> x.put(4, 0, 1));
        dueBad("fault(4)", x -> x.fault(4));
        dueBad("post(4)", x -> x.post(4));
        dueBad("house(3, 0)", x -> x.house(3, 0));
        dueBad("letter(6, 0)", x -> x.letter(6, 0));
        dueBad("carry(6)", x -> x.carry(6));
        dueBad("bribe(10)", x -> x.bribe(10));
        dueBad("weather(3)", x -> x.weather(3));
        dueBad("undo(2)", x -> x.undo(2));
        dueBad("keep(3)", x -> x.keep(3));
        dueBad("on(3)", x -> x.on(3));
        dueBad("ends(0, 10, 0)", x -> x.ends(0, 10, 0));
        dueBad("bond(6)", x -> x.bond(6));
        dueBad("least(0, 10)", x -> x.least(0, 10));
        dueBad("round(64, 0)", x -> x.round(64, 0));
        dueBad("plan(0, 21, 0)", x -> x.plan(0, 21, 0));
        dueBad("sets(55)", x -> x.sets(55));
        dueBad("duel(4)", x -> x.duel(4));
        dueBad("lots(21, 1)", x -> x.lots(21, 1));
        dueBad("count(14)", x -> x.count(14));
        dueBad("findings(6)", x -> x.findings(6));
    }

    private static void stateAndNoneChangeNothing() {
        due("post(2) of blanks", x -> x.post(2), Check.STATE);
        due("carry(3)", x -> x.carry(3), Check.STATE);
        due("weather(0)", x -> x.weather(0), Check.STATE);
        due("round(8, 0)", x -> x.round(8, 0), Check.STATE);
        due("fault(0)", x -> x.fault(0), Check.NONE);
        due("least(1, 9)", x -> x.least(1, 9), Check.NONE);
        due("plan(1, 20, 0)", x -> x.plan(1, 20, 0), Check.NONE);
        LetterEnds y = laden();
        y.lay(0, 1, 4);
        Check.dueRefused("test(4, 0)", y, () -> y.test(4, 0), Check.NONE);
    }

    private static void findingsOfRowsAndTextsChangeNothing() {
        dueFinding("row(0, -1)", x -> x.row(0, -1), Check.SIZE);
        dueFinding("lay(5, 0, 1)", x -> x.lay(MISSING, 0, 1), Check.NOTHING);
        dueFinding("lay(0, 2, 1)", x -> x.lay(0, 2, 1), Check.BEYOND);
        dueFinding("at(5, 0)", x -> x.at(MISSING, 0), Check.NOTHING);
        dueFinding("at(0, 2)", x -> x.at(0, 2), Check.BEYOND);
        dueFinding("tear(5)", x -> x.tear(MISSING), Check.NOTHING);
        dueFinding("copy(0, 0, 2, 0, -1)", x -> x.copy(0, 0, 2, 0, -1), Check.SIZE);
        dueFinding("copy(5, 0, 2, 0, 1)", x -> x.copy(MISSING, 0, 2, 0, 1), Check.NOTHING);
        dueFinding("copy(0, 0, 5, 0, 1)", x -> x.copy(0, 0, MISSING, 0, 1), Check.NOTHING);
        dueFinding("copy(2, 0, 0, 0, 3)", x -> x.copy(2, 0, 0, 0, 3), Check.BEYOND);
        dueFinding("mean(5)", x -> x.mean(MISSING), Check.NOTHING);
        dueFinding("mean(1)", x -> x.mean(1), Check.NOUGHT);
        dueFinding("text(0, -1)", x -> x.text(0, -1), Check.SIZE);
        dueFinding("put(3, 0, 1)", x -> x.put(3, 0, 1), Check.NOTHING);
        dueFinding("put(2, 4, 1)", x -> x.put(2, 4, 1), Check.BEYOND);
        dueFinding("fault(3)", x -> x.fault(3), Check.NOTHING);
        dueFinding("post(3)", x -> x.post(3), Check.NOTHING);
    }

    private static void findingsOfLettersChangeNothing() {
        dueFinding("mark(0, 1)", x -> x.mark(0, 1), Check.UNLIKE);
        dueFinding("on(0)", x -> x.on(0), Check.NOTHING);
        dueFinding("rest(0, 1, 5)", x -> x.rest(0, 1, MISSING), Check.NOTHING);
        dueFinding("rest(0, 1, 2)", x -> x.rest(0, 1, 2), Check.SIZE);
        dueFinding("rest(0, 1, 0)", x -> x.rest(0, 1, 0), Check.UNLIKE);
        dueFinding("meant(0, 5)", x -> x.meant(0, MISSING), Check.NOTHING);
        dueFinding("kinds(0, 4)", x -> x.kinds(0, 4), Check.SIZE);
        dueFinding("sure(24)", x -> x.sure(24), Check.NOUGHT);
        dueFinding("odds(5, 0, 0)", x -> x.odds(MISSING, 0, 0), Check.NOTHING);
        dueFinding("odds(2, 0, 0)", x -> x.odds(2, 0, 0), Check.SIZE);
        dueFinding("mid(0, 0)", x -> x.mid(0, 0), Check.UNLIKE);
        LetterEnds y = laden();
        y.lay(0, 1, 10);
        Check.dueFinding("test(0, 0)", y, () -> y.test(0, 0), Check.UNLIKE);
    }

    private static void dueOften(String what, LetterEnds x, int f, int often) {
        Check.due(what + ", findings(" + f + ")", x.findings(f), often);
        int all = 0;
        for (int other = 1; other <= 5; other++) {
            all += x.findings(other);
        }
        Check.due(what + ", no other findings", all, often);
    }

    private static void nothing() {
        LetterEnds x = new LetterEnds();
        Check.due("a row", x.at(0, 0), Check.FINDING);
        Check.due("a text", x.fault(0), Check.FINDING);
        Check.due("a kept post", x.on(0), Check.FINDING);
        dueOften("missing ones", x, 1, 3);
    }

    private static void beyond() {
        LetterEnds x = new LetterEnds();
        x.row(0, 3);
        x.text(0, 3);
        Check.due("a row's place", x.at(0, 3), Check.FINDING);
        Check.due("a text's place", x.put(0, 3, 1), Check.FINDING);
        dueOften("places that are none", x, 2, 2);
    }

    private static void unlike() {
        LetterEnds x = Check.posted(Check.SIX);
        Check.due("a letter of another kind", x.mark(0, 1), Check.FINDING);
        Check.rowOf(x, 0, 10, 0);
        Check.due("a mood that is none", x.meant(0, 0), Check.FINDING);
        Check.due("a letter that is none", x.mid(0, 0), Check.FINDING);
        dueOften("unlike ones", x, 3, 3);
    }

    private static void nought() {
        LetterEnds x = Check.posted(Check.SIX);
        x.row(0, 0);
        Check.due("shared among none", x.mean(0), Check.FINDING);
        Check.due("nothing fits", x.sure(24), Check.FINDING);
        dueOften("noughts", x, 4, 2);
    }

    private static void size() {
        LetterEnds x = Check.posted(Check.SIX);
        Check.due("fewer than none", x.row(0, -1), Check.FINDING);
        x.row(0, 7);
        Check.due("too many", x.mid(0, 0), Check.FINDING);
        Check.due("not as many as due", x.meant(0, 0), Check.FINDING);
        dueOften("sizes", x, 5, 3);
    }

    private static void parts() {
        LetterEnds x = Check.posted("p51h00f00f03");
        Check.rowOf(x, 0, 0);
        Check.duePart("a chance", x, x.odds(0, 6, 7), 7, 12);
        Check.duePart("a mean", x, x.mid(0, 7), 67, 12);
        Check.duePart("a number of sets", x, x.sets(3), 2, 1);
    }

    private static void lowestTerms() {
        LetterEnds x = Check.posted("p51h00f00f03");
        Check.rowOf(x, 0, 0);
        Check.duePart("8 of 12", x, x.odds(0, 6, 8), 2, 3);
        Check.duePart("12 of 12", x, x.odds(0, 6, 12), 1, 1);
        Check.duePart("64 of 12", x, x.mid(0, 4), 16, 3);
        Check.rowOf(x, 0, 0, 1);
        Check.duePart("108 of 144", x, x.odds(0, 14, 6), 3, 4);
    }

    private static void noughtByOne() {
        LetterEnds x = Check.posted("p51h00f00f03");
        Check.rowOf(x, 0, 0);
        Check.duePart("no chance", x, x.odds(0, 7, 8), 0, 1);
        Check.duePart("between", x, x.odds(0, 6, 8), 2, 3);
        Check.duePart("no set", x, x.sets(4), 0, 1);
        Check.duePart("between", x, x.odds(0, 6, 8), 2, 3);
        x.row(1, 0);
        Check.duePart("a mean of none", x, x.mid(1, 8), 0, 1);
    }

    private static void bits() {
        LetterEnds x = Check.posted("p51h00t00t00t00t00t00t09");
        Check.dueAsked("letter 5", x, x.sets(9), 32);
        Check.dueAsked("letters of the house", x, x.house(0, 1), 63);
        Check.rowOf(x, 0, 5, 9);
        Check.due("kinds of words 9 at 5: a telegram, love, black, French", x.kinds(5, 0), 2 + 8 + 16 + 32);
        Check.due("words 9", x.meant(0, 0), 512);
        Check.rowOf(x, 0, 5, 0);
        Check.due("words 0", x.meant(0, 0), 1);
    }
}
