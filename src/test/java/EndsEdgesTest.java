/** How letters would end, rounds, plans, where bonds come to: promises 22 to 27, sentence by sentence. */
public final class EndsEdgesTest {
    private static final String SIX = Check.SIX;

    public static void main(String[] args) {
        endSentences();
        roundSentences();
        planSentences();
        restSentences();
        Sentences.finish();
    }

    private static void endSentences() {
        Sentences.between("3 how letters end", "Ahead of the calls `round`");
        Sentences.holds("3 how letters end (aside)", EndsEdgesTest::endsAside);
        Sentences.under("Promise 22: ends");
        Sentences.holds("As how warm a LETTER would END of other WORDS (0 .. 9), in a MOOD (0 .. 9)", EndsEdgesTest::endsAtTheBounds);
        Sentences.holds("BAD", EndsEdgesTest::endsBad);
        Sentences.under("Promise 23: bond");
        Sentences.holds("The BOND of its HOUSE, were a LETTER CARRIED now", EndsEdgesTest::bondIfCarried);
        Sentences.holds("(were it not CARRIED yet)", EndsEdgesTest::bondIfCarriedAgain);
        Sentences.holds("his MOOD then by asked()", EndsEdgesTest::bondTellsHisMood);
        Sentences.holds("BAD", EndsEdgesTest::bondBad);
        Sentences.under("Promise 24: least");
        Sentences.holds("The least BRIBE (0 .. 9) ahead of it by which a LETTER, CARRIED now", EndsEdgesTest::leastBribe);
        Sentences.holds("(were it not CARRIED yet)", EndsEdgesTest::leastIfCarriedAgain);
        Sentences.holds("would END at v (0 .. 9) or more", EndsEdgesTest::leastForEachWarmth);
        Sentences.holds("NONE: by none", EndsEdgesTest::leastByNone);
        Sentences.holds("BAD", EndsEdgesTest::leastBad);
    }

    private static void roundSentences() {
        Sentences.between("4 rounds (aside", "Ahead of the calls `meant`");
        Sentences.holds("4 rounds (aside", EndsEdgesTest::roundsAside);
        Sentences.holds("from now on", EndsEdgesTest::roundsFromNowOn);
        Sentences.holds("LETTERS alone that were not CARRIED)", EndsEdgesTest::roundsOfOthersAlone);
        Sentences.under("Promise 25: round");
        Sentences.holds("How warm, together, all of a set of LETTERS END at most, CARRIED in any order", EndsEdgesTest::roundAtMost);
        Sentences.holds("the first order by which they do comes to a ROW (anew)", EndsEdgesTest::roundFirstOrder);
        Sentences.holds("BAD: also a set of others", EndsEdgesTest::roundBad);
        Sentences.holds("STATE: one was CARRIED", EndsEdgesTest::roundOfACarriedOne);
        Sentences.holds("(STATE last.)", EndsEdgesTest::roundStateLast);
    }

    private static void planSentences() {
        Sentences.under("Promise 26: plan");
        Sentences.holds("The fewest LETTERS (0 .. 6) to be CARRIED, in any order", EndsEdgesTest::planFewest);
        Sentences.holds("so that the BOND of a HOUSE is v (0 .. 20) or more in the end", EndsEdgesTest::planInTheEnd);
        Sentences.holds("the first such order of so many comes to a ROW (anew)", EndsEdgesTest::planFirstOrder);
        Sentences.holds("NONE: it can't be", EndsEdgesTest::planCannotBe);
        Sentences.holds("BAD", EndsEdgesTest::planBad);
    }

    private static void restSentences() {
        Sentences.under("Promise 27: rest");
        Sentences.holds("The BOND of a HOUSE behind n (0 .. 20) DAYS", EndsEdgesTest::restBehindDays);
        Sentences.holds("on each of which LETTERS are CARRIED as a ROW has them (0 to 6, unlike ones", EndsEdgesTest::restAsTheRowHasThem);
        Sentences.holds("those CARRIED now are not, as each DAY begins anew, the first one, too, he at HOUSE 0)", EndsEdgesTest::restBeginsAnew);
        Sentences.holds("BAD", EndsEdgesTest::restBad);
        Sentences.holds("NOTHING", EndsEdgesTest::restOfNothing);
        Sentences.holds("SIZE", EndsEdgesTest::restOfSeven);
        Sentences.holds("UNLIKE: no such LETTER", EndsEdgesTest::restOfNoSuchLetter);
        Sentences.holds("one twice", EndsEdgesTest::restOfOneTwice);
    }

    private static void endsAside() {
        LetterEnds x = Check.posted(SIX);
        x.carry(5);
        long digest = x.digest();
        x.ends(0, 9, 9);
        x.bond(0);
        x.bond(5);
        x.least(0, 9);
        Check.due("digest()", x.digest(), digest);
        Check.due("asked() is bond()'s", x.asked(), 3);
    }

    private static void endsAtTheBounds() {
        int[][] want = {{0, 0, 5, 0, 5, 0}, {4, 0, 5, 9, 5, 9}, {4, 9, 5, 9, 9, 9}, {9, 9, 9, 9, 9, 9}};
        for (int both = 0; both < 4; both++) {
            LetterEnds x = Check.posted(SIX);
            int words = both < 2 ? 0 : 9;
            int mood = both % 2 == 0 ? 0 : 9;
            for (int l = 0; l < 6; l++) {
                Check.due("ends(" + l + ", " + words + ", " + mood + ")", x.ends(l, words, mood), want[both][l]);
            }
        }
    }

    private static void endsBad() {
        LetterEnds x = Check.posted(SIX);
        Check.dueBounds("ends(l, 0, 0)", x, 0, 5, l -> x.ends(l, 0, 0));
        LetterEnds y = Check.posted(SIX);
        Check.dueBounds("ends(0, words, 0)", y, 0, 9, words -> y.ends(0, words, 0));
        LetterEnds z = Check.posted(SIX);
        Check.dueBounds("ends(0, 0, mood)", z, 0, 9, mood -> z.ends(0, 0, mood));
        LetterEnds none = new LetterEnds();
        Check.dueRefused("without letters, ends(0, 0, 0)", none, () -> none.ends(0, 0, 0), Check.BAD);
    }

    private static void dueBond(String signs, int bond, int mood) {
        LetterEnds x = Check.posted(signs);
        Check.due("bond(0) in '" + signs + "'", x.bond(0), bond);
        Check.due("bond(0) in '" + signs + "', asked()", x.asked(), mood);
        x.carry(0);
        int home = x.count(6);
        Check.dueAsked("truly", x, x.house(home, 0), bond);
        Check.due("truly, mood", x.count(4), mood);
    }

    private static void bondIfCarried() {
        dueBond("p51h10t05", 10, 5);
        dueBond("p51h10t09", 14, 6);
        dueBond("p51h10t00", 5, 4);
        dueBond("p51h20t06", 20, 6);
        dueBond("p51h18t09", 20, 6);
        dueBond("p51h00t04", 0, 5);
        dueBond("p51h03t00", 0, 4);
        dueBond("p50h10h10h10v20", 8, 2);
    }

    private static void bondIfCarriedAgain() {
        LetterEnds x = Check.posted("p51h00h10t19");
        x.carry(0);
        Check.dueAsked("carried", x, x.house(1, 0), 14);
        Check.due("bond(0) once more", x.bond(0), 18);
        Check.due("bond(0) once more, asked()", x.asked(), 7);
        Check.dueAsked("as it was", x, x.house(1, 0), 14);
    }

    private static void bondTellsHisMood() {
        dueBond("p91h10t09", 14, 9);
        dueBond("p01h10t00", 5, 0);
        dueBond("p20h10h10h10h10k39", 14, 1);
        dueBond("p92h10h10t10", 5, 8);
        dueBond("p51h10f09", 14, 5);
    }

    private static void bondBad() {
        LetterEnds x = Check.posted(SIX);
        Check.dueBounds("bond(l)", x, 0, 5, l -> x.bond(l));
        LetterEnds none = new LetterEnds();
        Check.dueRefused("without letters, bond(0)", none, () -> none.bond(0), Check.BAD);
    }

    private static void dueLeast(String signs, int v, int want) {
        LetterEnds x = Check.posted(signs);
        Check.due("least(0, " + v + ") in '" + signs + "'", x.least(0, v), want);
    }

    private static void leastBribe() {
        dueLeast("p01h00v00", 9, 9);
        dueLeast("p01h00v00", 1, 1);
        dueLeast("p91h00v00", 9, 0);
        dueLeast("p00h00h00v10", 1, 2);
        dueLeast("p00h00h00v10", 8, 9);
        dueLeast("p02h00h00v10", 9, 8);
        dueLeast("p51h00v00", 5, 0);
        dueLeast("p51h00v00", 6, 1);
    }

    private static void leastIfCarriedAgain() {
        LetterEnds x = Check.posted("p40h00h00v10");
        Check.due("least(0, 5)", x.least(0, 5), 2);
        x.carry(0);
        Check.due("from its own house, mood 2", x.least(0, 5), 3);
        Check.due("carried", x.count(7), 1);
    }

    private static void leastForEachWarmth() {
        LetterEnds x = Check.posted("p01h00v00");
        for (int v = 0; v <= 9; v++) {
            Check.due("least(0, " + v + ")", x.least(0, v), v);
        }
        dueLeast("p01h00l01", 0, 0);
        dueLeast("p01h00l01", 1, 1);
        dueLeast("p01h00l01", 5, 9);
        dueLeast("p01h00k00", 5, 0);
    }

    private static void leastByNone() {
        dueLeast("p01h00l00", 5, Check.NONE);
        dueLeast("p01h00l00", 4, 8);
        dueLeast("p01h00t08", 9, Check.NONE);
        dueLeast("p01h00t08", 8, 0);
        dueLeast("p00h00h00v10", 9, Check.NONE);
        LetterEnds x = Check.posted("p01h00t08");
        Check.dueRefused("least(0, 9)", x, () -> x.least(0, 9), Check.NONE);
    }

    private static void leastBad() {
        LetterEnds x = Check.posted(SIX);
        Check.dueBounds("least(l, 0)", x, 0, 5, l -> x.least(l, 0));
        LetterEnds y = Check.posted("p01h00v00");
        Check.dueBounds("least(0, v)", y, 0, 9, v -> y.least(0, v));
        LetterEnds none = new LetterEnds();
        Check.dueRefused("without letters, least(0, 0)", none, () -> none.least(0, 0), Check.BAD);
    }

    private static void roundsAside() {
        LetterEnds x = Check.posted(SIX);
        x.carry(3);
        Check.rowOf(x, 0, 0, 1);
        x.row(1, 2);
        long digest = x.digest();
        int bonds = x.count(8);
        x.rest(0, 20, 0);
        Check.due("rest(), digest()", x.digest(), digest);
        x.round(55, 1);
        x.plan(0, 20, 1);
        Check.due("bonds", x.count(8), bonds);
        Check.due("deeds", x.count(3), 1);
        Check.due("carried", x.count(7), 8);
        Check.due("where he stands", x.count(6), 0);
        Check.due("mood", x.count(4), 6);
        Check.due("day", x.count(2), 0);
    }

    /** In sun from the far end the way back lifts his mood; a day's first letter finds him at HOUSE 0 again. */
    private static void roundsFromNowOn() {
        LetterEnds x = Check.posted("p30h10h10h10h10k35f00f30");
        x.carry(0);
        Check.due("mood", x.count(4), 0);
        Check.due("rain, round(2, 0)", x.round(2, 0), 0);
        x.weather(2);
        Check.due("sun, round(2, 0)", x.round(2, 0), 3);
        Check.due("sun, round(6, 0)", x.round(6, 0), 9);
        Check.dueRow("sun, round(6, 0)", x, 0, 1, 2);
        Check.due("sun, plan(0, 9, 0)", x.plan(0, 9, 0), 0);
        Check.due("sun, plan(3, 11, 0)", x.plan(3, 11, 0), 2);
        Check.dueRow("sun, plan(3, 11, 0)", x, 0, 1, 2);
        x.weather(1);
        Check.due("dull, round(6, 0)", x.round(6, 0), 0);
        x.bribe(4);
        Check.due("bribed, round(6, 0)", x.round(6, 0), 8);
        Check.due("bribed, plan(3, 11, 0)", x.plan(3, 11, 0), Check.NONE);
    }

    private static void roundsOfOthersAlone() {
        LetterEnds x = Check.posted("p51h10t09t08");
        Check.due("plan(0, 14, 0)", x.plan(0, 14, 0), 1);
        Check.dueRow("plan(0, 14, 0)", x, 0, 0);
        x.carry(0);
        Check.dueRefused("round(1, 0)", x, () -> x.round(1, 0), Check.STATE);
        Check.due("round(2, 0)", x.round(2, 0), 8);
        Check.due("plan(0, 15, 0)", x.plan(0, 15, 0), 1);
        Check.dueRow("plan(0, 15, 0)", x, 0, 1);
        Check.due("plan(0, 18, 0)", x.plan(0, 18, 0), Check.NONE);
    }

    private static void roundAtMost() {
        LetterEnds x = Check.posted("p51h10h10v00t19t00");
        Check.due("none", x.round(0, 0), 0);
        Check.due("one", x.round(2, 0), 9);
        Check.due("two, the warm one ahead", x.round(3, 0), 15);
        Check.due("two, the cold one behind", x.round(5, 0), 5);
        Check.due("three", x.round(7, 0), 15);
        LetterEnds nines = Check.posted("p91h00f09f09f09f09f09f09");
        Check.due("six", nines.round(63, 0), 54);
        LetterEnds noughts = Check.posted("p01h00t00t00t00t00t00t00");
        Check.due("six of 0", noughts.round(63, 0), 0);
        Check.dueRow("six of 0", noughts, 0, 0, 1, 2, 3, 4, 5);
    }

    private static void roundFirstOrder() {
        LetterEnds x = Check.posted("p51h10h10v00t19t00");
        Check.rowOf(x, 3, 7, 7, 7, 7, 7, 7, 7, 7);
        x.round(7, 3);
        Check.dueRow("round(7, 3) over eight", x, 3, 1, 0, 2);
        x.round(0, 3);
        Check.dueRow("round(0, 3) over three", x, 3);
        x.round(5, 4);
        Check.dueRow("round(5, 4) where none was", x, 4, 0, 2);
        LetterEnds same = Check.posted("p51h10t05t05t05t05t05t05");
        same.round(63, 5);
        Check.dueRow("all orders alike", same, 5, 0, 1, 2, 3, 4, 5);
        same.round(42, 5);
        Check.dueRow("all orders of three alike", same, 5, 1, 3, 5);
    }

    private static void roundBad() {
        LetterEnds x = Check.posted("p51h10t05t05t05");
        Check.dueBounds("round(set, 0)", x, 0, 7, set -> x.round(set, 0));
        LetterEnds y = Check.posted("p51h10t05t05t05");
        Check.dueBounds("round(7, r)", y, 0, 5, r -> y.round(7, r));
        Check.dueRefused("round(9, 0): one of others", y, () -> y.round(9, 0), Check.BAD);
        LetterEnds six = Check.posted(SIX);
        Check.dueRefused("round(64, 0)", six, () -> six.round(64, 0), Check.BAD);
        LetterEnds none = new LetterEnds();
        Check.dueRefused("without letters, round(1, 0)", none, () -> none.round(1, 0), Check.BAD);
    }

    private static void roundOfACarriedOne() {
        LetterEnds x = Check.posted("p51h10t05t05t05");
        x.carry(1);
        Check.dueRefused("round(2, 0)", x, () -> x.round(2, 0), Check.STATE);
        Check.dueRefused("round(7, 0)", x, () -> x.round(7, 0), Check.STATE);
        Check.due("round(5, 0)", x.round(5, 0), 10);
        Check.due("round(0, 0)", x.round(0, 0), 0);
        x.day();
        Check.due("on another day, round(7, 0)", x.round(7, 0), 15);
    }

    private static void roundStateLast() {
        LetterEnds x = Check.posted("p51h10t05t05t05");
        x.carry(1);
        Check.dueRefused("round(10, 0)", x, () -> x.round(10, 0), Check.BAD);
        Check.dueRefused("round(2, 6)", x, () -> x.round(2, 6), Check.BAD);
        Check.dueRefused("round(2, -1)", x, () -> x.round(2, -1), Check.BAD);
    }

    private static void duePlan(LetterEnds x, int h, int v, int want, int... order) {
        Check.rowOf(x, 2, 7, 7, 7, 7, 7, 7, 7);
        Check.due("plan(" + h + ", " + v + ", 2)", x.plan(h, v, 2), want);
        Check.dueRow("plan(" + h + ", " + v + ", 2)", x, 2, order);
    }

    private static void planFewest() {
        LetterEnds x = Check.posted("p51h10t06t06t06t06t06t06");
        duePlan(x, 0, 0, 0);
        duePlan(x, 0, 10, 0);
        for (int n = 1; n <= 6; n++) {
            Check.due("plan(0, " + (10 + n) + ", 1)", x.plan(0, 10 + n, 1), n);
        }
        duePlan(x, 0, 16, 6, 0, 1, 2, 3, 4, 5);
        LetterEnds y = Check.posted("p51h10t06t06t09");
        duePlan(y, 0, 14, 1, 2);
    }

    private static void planInTheEnd() {
        LetterEnds x = Check.posted("p51h19h00h20t07t10t10t09");
        duePlan(x, 0, 20, 1, 0);
        duePlan(x, 1, 0, 0);
        duePlan(x, 2, 20, 0);
        Check.dueRefused("plan(1, 1, 2)", x, () -> x.plan(1, 1, 2), Check.NONE);
        x.carry(0);
        duePlan(x, 0, 20, 0);
    }

    private static void planFirstOrder() {
        LetterEnds x = Check.posted("p51h10h10v00t07t16");
        duePlan(x, 0, 11, 1, 1);
        duePlan(x, 0, 13, 2, 1, 0);
        LetterEnds y = Check.posted("p51h10h10v00t17t07");
        duePlan(y, 0, 11, 1, 2);
        duePlan(y, 0, 12, 1, 2);
        duePlan(y, 0, 13, 2, 2, 0);
        // a letter to another house lifts his mood for the one to this house
        LetterEnds z = Check.posted("p51h10h10v00t16t17");
        duePlan(z, 0, 11, 2, 1, 0);
        duePlan(z, 0, 12, 3, 1, 2, 0);
    }

    private static void planCannotBe() {
        LetterEnds x = Check.posted("p51h10t06t06t06t06t06t06");
        Check.rowOf(x, 2, 4, 2);
        Check.due("plan(0, 17, 2)", x.plan(0, 17, 2), Check.NONE);
        Check.dueRow("the row stays", x, 2, 4, 2);
        Check.dueRefused("plan(0, 20, 2)", x, () -> x.plan(0, 20, 2), Check.NONE);
        Check.dueRefused("plan(0, 17, 3): it stays missing", x, () -> x.plan(0, 17, 3), Check.NONE);
    }

    private static void planBad() {
        LetterEnds x = Check.posted(SIX);
        Check.dueBounds("plan(h, 0, 0)", x, 0, 2, h -> x.plan(h, 0, 0));
        LetterEnds y = Check.posted(SIX);
        Check.dueBounds("plan(2, v, 0)", y, 0, 20, v -> y.plan(2, v, 0));
        LetterEnds z = Check.posted(SIX);
        Check.dueBounds("plan(0, 0, r)", z, 0, 5, r -> z.plan(0, 0, r));
        LetterEnds none = new LetterEnds();
        Check.dueRefused("without houses, plan(0, 0, 0)", none, () -> none.plan(0, 0, 0), Check.BAD);
    }

    private static void restBehindDays() {
        LetterEnds x = Check.posted("p51h00h10t06t14");
        Check.rowOf(x, 0, 0);
        for (int n : new int[] {0, 1, 2, 19, 20}) {
            Check.due("rest(0, " + n + ", 0)", x.rest(0, n, 0), n);
        }
        Check.due("rest(1, 20, 0): another house", x.rest(1, 20, 0), 10);
        Check.rowOf(x, 0, 1);
        Check.due("rest(1, 9, 0)", x.rest(1, 9, 0), 1);
        Check.due("rest(1, 11, 0)", x.rest(1, 11, 0), 0);
    }

    private static void restAsTheRowHasThem() {
        LetterEnds x = Check.posted("p51h10v00t09t00");
        Check.rowOf(x, 0, 0, 1);
        Check.due("5, then 9", x.rest(0, 1, 0), 14);
        Check.rowOf(x, 0, 1, 0);
        Check.due("9, then 6", x.rest(0, 1, 0), 15);
        Check.rowOf(x, 0);
        Check.due("none", x.rest(0, 20, 0), 10);
        LetterEnds six = Check.posted("p51h10t06t06t06t06t06t05");
        Check.rowOf(six, 1, 5, 4, 3, 2, 1, 0);
        Check.due("six", six.rest(0, 1, 1), 15);
    }

    private static void restBeginsAnew() {
        LetterEnds x = Check.posted("p50h10h10h10k25f00");
        x.carry(0);
        Check.due("mood", x.count(4), 3);
        Check.rowOf(x, 0, 0, 1);
        // mood 3 now: by house 2 it is 1, back at house 0 it is 0
        Check.due("rest(0, 1, 0)", x.rest(0, 1, 0), 5);
        Check.rowOf(x, 0, 1);
        // from house 0, where no rain takes anything
        Check.due("rest(0, 1, 0) of letter 1", x.rest(0, 1, 0), 8);
        Check.due("rest(0, 0, 0): no day begins", x.rest(0, 0, 0), 10);
        Check.due("he stands where he stood", x.count(6), 2);
    }

    private static void restBad() {
        LetterEnds x = Check.posted(SIX);
        Check.rowOf(x, 0, 0);
        Check.dueBounds("rest(h, 0, 0)", x, 0, 2, h -> x.rest(h, 0, 0));
        LetterEnds y = Check.posted(SIX);
        Check.rowOf(y, 0, 0);
        Check.dueBounds("rest(0, n, 0)", y, 0, 20, n -> y.rest(0, n, 0));
        LetterEnds z = Check.posted(SIX);
        Check.dueBounds("rest(0, 0, r)", z, 0, 5, r -> z.rest(0, 0, r));
        LetterEnds none = new LetterEnds();
        none.row(0, 0);
        Check.dueRefused("without houses, rest(0, 0, 0)", none, () -> none.rest(0, 0, 0), Check.BAD);
    }

    private static void restOfNothing() {
        LetterEnds x = Check.posted(SIX);
        Check.dueFindings("rest(0, n, 3)", x, Check.NOTHING, n -> x.rest(0, n, 3), 0, 20);
    }

    private static void restOfSeven() {
        LetterEnds x = Check.posted(SIX);
        Check.rowOf(x, 0, 0, 1, 2, 3, 4, 5, 6);
        Check.dueFinding("seven", x, () -> x.rest(0, 0, 0), Check.SIZE);
        x.row(0, 40);
        Check.dueFinding("forty", x, () -> x.rest(0, 0, 0), Check.SIZE);
    }

    private static void restOfNoSuchLetter() {
        LetterEnds x = Check.posted("p51h10t06t06");
        x.row(0, 1);
        for (int l : new int[] {-1, 2, 6, 32, Check.LEAST, Check.MOST}) {
            x.lay(0, 0, l);
            Check.dueFinding("letter " + l, x, () -> x.rest(0, 0, 0), Check.UNLIKE);
        }
        Check.rowOf(x, 0, 1, 2);
        Check.dueFinding("letter 2 behind letter 1", x, () -> x.rest(0, 1, 0), Check.UNLIKE);
    }

    private static void restOfOneTwice() {
        LetterEnds x = Check.posted(SIX);
        Check.rowOf(x, 0, 0, 0);
        Check.dueFinding("0, 0", x, () -> x.rest(0, 0, 0), Check.UNLIKE);
        Check.rowOf(x, 0, 5, 0, 1, 2, 3, 5);
        Check.dueFinding("the first and the last", x, () -> x.rest(0, 0, 0), Check.UNLIKE);
    }
}
