/** Promises 31 to 33: whose words come to so many, whose surely, by turns. */
public final class WordsTest {
    public static void main(String[] args) {
        sets();
        sure();
        duel();
        Check.finish();
    }

    private static void dueSets(LetterEnds x, int v, int many, int first) {
        Check.dueAsked("sets(" + v + ")", x, x.sets(v), first);
        Check.due("sets(" + v + "), upper()", x.upper(), many);
        Check.due("sets(" + v + "), lower()", x.lower(), 1);
    }

    private static void sets() {
        // words 7, 2, 4, 3, 1, 6
        LetterEnds x = Check.posted(Check.SIX);
        dueSets(x, 0, 1, 0);
        dueSets(x, 3, 2, 8);
        dueSets(x, 9, 4, 3);
        dueSets(x, 23, 1, 63);
        dueSets(x, 24, 0, Check.NONE);
        dueSets(x, 54, 0, Check.NONE);
        Check.dueRefused("sets(55)", x, () -> x.sets(55), Check.BAD);
        Check.dueRefused("sets(-1)", x, () -> x.sets(-1), Check.BAD);
        LetterEnds nines = Check.posted("p00h00l09l09l09l09l09l09");
        dueSets(nines, 54, 1, 63);
        dueSets(nines, 27, 20, 7);
        LetterEnds noughts = Check.posted("p00h00l00t00k00");
        dueSets(noughts, 0, 8, 0);
        LetterEnds none = new LetterEnds();
        Check.dueRefused("without letters, sets(0)", none, () -> none.sets(0), Check.STATE);
        Check.dueRefused("without letters, sets(55)", none, () -> none.sets(55), Check.BAD);
    }

    private static void dueSure(LetterEnds x, int v, int each, int none) {
        long up = x.upper();
        Check.due("sure(" + v + ")", x.sure(v), each);
        Check.due("sure(" + v + "), asked()", x.asked(), none);
        Check.due("sure(" + v + "), upper() stays", x.upper(), up);
    }

    private static void sure() {
        LetterEnds x = Check.posted(Check.SIX);
        x.sets(9);
        dueSure(x, 0, 0, 63);
        dueSure(x, 3, 0, 37);
        dueSure(x, 23, 63, 0);
        dueSure(x, 22, 47, 16);
        Check.dueFinding("sure(24)", x, () -> x.sure(24), Check.NOUGHT);
        Check.dueRefused("sure(55)", x, () -> x.sure(55), Check.BAD);
        Check.dueRefused("sure(-1)", x, () -> x.sure(-1), Check.BAD);
        LetterEnds none = new LetterEnds();
        Check.dueRefused("without letters, sure(0)", none, () -> none.sure(0), Check.STATE);
        Check.dueRefused("without letters, sure(55)", none, () -> none.sure(55), Check.BAD);
    }

    private static void duel() {
        // telegrams end by their words: the greatest, the least, ..
        LetterEnds x = Check.posted("p51h00t01t08t05t03");
        Check.dueAsked("duel(0)", x, x.duel(0), 0);
        Check.dueAsked("duel(1)", x, x.duel(1), 9);
        Check.dueAsked("duel(2)", x, x.duel(2), 17);
        Check.dueAsked("duel(3): they end when there is none", x, x.duel(3), 17);
        x.carry(1);
        Check.dueAsked("one carried, duel(1)", x, x.duel(1), 6);
        Check.dueAsked("one carried, duel(2)", x, x.duel(2), 9);
        x.carry(0);
        x.carry(2);
        x.carry(3);
        Check.dueAsked("all carried, duel(3)", x, x.duel(3), 0);
        // he who begins looks ahead: 9 now lifts the love letter to 6, the love letter now leaves the 9
        LetterEnds y = Check.posted("p51h00t09v00");
        Check.dueAsked("looking ahead, duel(1)", y, y.duel(1), 15);
        Check.due("duel() is aside", y.count(3) + y.count(7), 0);
        Check.dueRefused("duel(4)", x, () -> x.duel(4), Check.BAD);
        Check.dueRefused("duel(-1)", x, () -> x.duel(-1), Check.BAD);
        LetterEnds none = new LetterEnds();
        Check.dueRefused("without letters, duel(0)", none, () -> none.duel(0), Check.STATE);
        Check.dueRefused("without letters, duel(4)", none, () -> none.duel(4), Check.BAD);
    }
}
