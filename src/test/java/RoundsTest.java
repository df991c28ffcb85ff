/** Promises 25 to 27: rounds, plans, where bonds come to. */
public final class RoundsTest {
    public static void main(String[] args) {
        round();
        roundFromNow();
        plan();
        planFromNow();
        rest();
        restOverDays();
        restRefused();
        Check.finish();
    }

    private static void dueRound(LetterEnds x, int set, int want, int... order) {
        x.row(1, 9);
        int told = x.asked();
        Check.due("round(" + set + ", 1)", x.round(set, 1), want);
        Check.due("round(" + set + ", 1), asked() stays", x.asked(), told);
        Check.dueRow("round(" + set + ", 1)", x, 1, order);
    }

    private static void round() {
        LetterEnds x = Check.posted(Check.SIX);
        dueRound(x, 0, 0);
        dueRound(x, 8, 8, 3);
        dueRound(x, 5, 10, 0, 2);
        Check.due("round(63, 4) where no row was", x.round(63, 4), 35);
        int last = lastOfSix(x);
        Check.dueAsked("round(63, 4), its last", x, x.at(4, 5), last);
        Check.due("round() is aside", x.count(3) + x.count(7), 0);
        Check.dueRefused("round(64, 1)", x, () -> x.round(64, 1), Check.BAD);
        Check.dueRefused("round(-1, 1)", x, () -> x.round(-1, 1), Check.BAD);
        Check.dueRefused("round(1, 6)", x, () -> x.round(1, 6), Check.BAD);
        Check.dueRefused("round(1, -1)", x, () -> x.round(1, -1), Check.BAD);
        x.carry(1);
        Check.dueRefused("round(2, 1), carried", x, () -> x.round(2, 1), Check.STATE);
        Check.dueRefused("round(63, 1), one carried", x, () -> x.round(63, 1), Check.STATE);
        Check.dueRefused("round(63, 6), one carried", x, () -> x.round(63, 6), Check.BAD);
        LetterEnds y = new LetterEnds();
        Check.due("without letters, round(0, 0)", y.round(0, 0), 0);
        Check.due("without letters, a row", y.count(11), 1);
        Check.dueRefused("without letters, round(1, 0)", y, () -> y.round(1, 0), Check.BAD);
    }

    /** The rest of an order is what its first five leave. */
    private static int lastOfSix(LetterEnds x) {
        int left = 15;
        for (int i = 0; i < 5; i++) {
            x.at(4, i);
            left -= x.asked();
        }
        return left;
    }

    private static void roundFromNow() {
        // dull: the cold telegram lowers his mood for the love letter, so it comes last
        LetterEnds x = Check.posted("p51h00t00v03t09");
        dueRound(x, 3, 8, 1, 0);
        // the warm telegram lifts it ahead of the love letter, which lifts nothing that ends by words alone
        dueRound(x, 7, 18, 2, 1, 0);
        dueRound(x, 5, 9, 0, 2);
        x.bribe(1);
        dueRound(x, 3, 9, 1, 0);
        // in rain from house 1, mood 7: 1 + 6, then 0 + 5, or 0 + 6, then 1 + 5: the first order of both
        LetterEnds y = Check.posted("p80h00h00h00k15v21v00");
        y.carry(0);
        dueRound(y, 6, 12, 1, 2);
        // 0 + 6, then 4 + 5, which is more than 9 (4 + 6, cut to it), then 0 + 5
        LetterEnds z = Check.posted("p80h00h00h00k15v20v04");
        z.carry(0);
        dueRound(z, 6, 15, 1, 2);
    }

    private static void duePlan(LetterEnds x, int h, int v, int want, int... order) {
        x.row(2, 9);
        Check.due("plan(" + h + ", " + v + ", 2)", x.plan(h, v, 2), want);
        Check.dueRow("plan(" + h + ", " + v + ", 2)", x, 2, order);
    }

    private static void plan() {
        LetterEnds x = Check.posted("p51h10h10t07v04t19t06");
        duePlan(x, 0, 10, 0);
        duePlan(x, 0, 11, 1, 0);
        duePlan(x, 0, 12, 1, 0);
        duePlan(x, 0, 13, 1, 1);
        duePlan(x, 0, 14, 1, 1);
        duePlan(x, 0, 15, 2, 0, 1);
        duePlan(x, 0, 16, 2, 0, 1);
        duePlan(x, 0, 17, 3, 0, 1, 3);
        duePlan(x, 1, 14, 1, 2);
        x.row(2, 3);
        Check.dueRefused("plan(1, 15, 2)", x, () -> x.plan(1, 15, 2), Check.NONE);
        Check.dueRefused("plan(1, 15, 5) where no row was", x, () -> x.plan(1, 15, 5), Check.NONE);
        Check.dueRefused("plan(2, 0, 2)", x, () -> x.plan(2, 0, 2), Check.BAD);
        Check.dueRefused("plan(-1, 0, 2)", x, () -> x.plan(-1, 0, 2), Check.BAD);
        Check.dueRefused("plan(0, 21, 2)", x, () -> x.plan(0, 21, 2), Check.BAD);
        Check.dueRefused("plan(0, -1, 2)", x, () -> x.plan(0, -1, 2), Check.BAD);
        Check.dueRefused("plan(0, 0, 6)", x, () -> x.plan(0, 0, 6), Check.BAD);
        Check.dueRefused("plan(0, 0, -1)", x, () -> x.plan(0, 0, -1), Check.BAD);
        Check.due("plan() is aside", x.count(3) + x.count(7), 0);
    }

    private static void planFromNow() {
        LetterEnds x = Check.posted("p51h10h10t07v04t19t06");
        x.carry(0);
        // mood 6 and bond 12: the love letter ends at 9, the last telegram at 6
        duePlan(x, 0, 13, 1, 1);
        duePlan(x, 0, 17, 2, 1, 3);
        Check.dueRefused("plan(0, 18, 2)", x, () -> x.plan(0, 18, 2), Check.NONE);
        // a letter to another house lifts his mood ahead
        LetterEnds y = Check.posted("p51h10h10v03t19");
        duePlan(y, 0, 13, 1, 0);
        duePlan(y, 0, 14, 2, 1, 0);
    }

    private static void rest() {
        LetterEnds x = Check.posted(Check.SIX);
        Check.rowOf(x, 2);
        Check.due("rest(1, 5, 2) of none", x.rest(1, 5, 2), 3);
        Check.rowOf(x, 2, 3, 0);
        // rain: the love letter ends at 8 (mood 6), the letter 1 further on at (7 + 5) / 2
        Check.due("rest(0, 0, 2)", x.rest(0, 0, 2), 10);
        Check.due("rest(0, 1, 2)", x.rest(0, 1, 2), 13);
        Check.due("rest(1, 1, 2)", x.rest(1, 1, 2), 4);
        // the next day begins with mood 6: 9, then with 7 - 1 at (7 + 6) / 2
        Check.due("rest(0, 2, 2)", x.rest(0, 2, 2), 17);
        Check.due("rest(1, 2, 2)", x.rest(1, 2, 2), 5);
        Check.due("rest(0, 20, 2)", x.rest(0, 20, 2), 20);
        Check.due("rest() is aside", x.count(2) + x.count(3), 0);
    }

    private static void restOverDays() {
        LetterEnds x = Check.posted("p91h20h05t04t10t16");
        Check.rowOf(x, 0, 0);
        Check.due("rest(0, 3, 0)", x.rest(0, 3, 0), 17);
        Check.due("rest(0, 20, 0)", x.rest(0, 20, 0), 0);
        x.carry(0);
        Check.due("one that was carried begins anew", x.rest(0, 1, 0), 18);
        // a walk in sun from house 0, not from where he stands: 4 + 1 at the door of house 1
        LetterEnds y = Check.posted("p42h00h00k15v10");
        y.carry(0);
        Check.rowOf(y, 1, 1);
        Check.due("mood by now", y.count(4), 5);
        Check.due("rest(1, 1, 1): 6 at the door", y.rest(1, 1, 1), 1);
        Check.due("rest(1, 2, 1): 7, then 8 at the door", y.rest(1, 2, 1), 4);
    }

    private static void restRefused() {
        LetterEnds x = Check.posted("p91h20h05t04t10t16");
        Check.rowOf(x, 0, 0, 1, 2);
        Check.dueRefused("rest(2, 1, 0)", x, () -> x.rest(2, 1, 0), Check.BAD);
        Check.dueRefused("rest(-1, 1, 0)", x, () -> x.rest(-1, 1, 0), Check.BAD);
        Check.dueRefused("rest(0, 21, 0)", x, () -> x.rest(0, 21, 0), Check.BAD);
        Check.dueRefused("rest(0, -1, 0)", x, () -> x.rest(0, -1, 0), Check.BAD);
        Check.dueRefused("rest(0, 1, 6)", x, () -> x.rest(0, 1, 6), Check.BAD);
        Check.dueRefused("rest(0, 1, -1)", x, () -> x.rest(0, 1, -1), Check.BAD);
        Check.dueFinding("rest(0, 0, 1)", x, () -> x.rest(0, 0, 1), Check.NOTHING);
        Check.rowOf(x, 1, 9, 9, 9, 9, 9, 9, 9);
        Check.dueFinding("rest of seven", x, () -> x.rest(0, 0, 1), Check.SIZE);
        Check.rowOf(x, 1, 3);
        Check.dueFinding("rest of no letter", x, () -> x.rest(0, 0, 1), Check.UNLIKE);
        Check.rowOf(x, 1, -1);
        Check.dueFinding("rest of one below 0", x, () -> x.rest(0, 1, 1), Check.UNLIKE);
        Check.rowOf(x, 1, 1, 0, 1);
        Check.dueFinding("rest of one twice", x, () -> x.rest(0, 1, 1), Check.UNLIKE);
        Check.rowOf(x, 1, 32);
        Check.dueFinding("rest of 32", x, () -> x.rest(0, 1, 1), Check.UNLIKE);
    }
}
