import java.util.function.IntUnaryOperator;

/** LOTS, chances, means, promises 34 to 36, sentence by sentence. */
public final class ChancesEdgesTest {
    private static final String SIX = Check.SIX;

    public static void main(String[] args) {
        groupSentences();
        oddsSentences();
        midSentences();
        lotSentences();
        lotsSentences();
        Sentences.finish();
    }

    private static void groupSentences() {
        Sentences.between("8 chances, lots", "Ahead of the calls `asked`");
        Sentences.holds("8 chances, lots (LETTERS CARRIED as a ROW has them", ChancesEdgesTest::asTheRowHasThem);
        Sentences.holds("0 to 6, unlike ones", ChancesEdgesTest::noneToSix);
        Sentences.holds("BAD", ChancesEdgesTest::badFirst);
        Sentences.holds("NOTHING", () -> ofEach(ChancesEdgesTest::ofNothing));
        Sentences.holds("SIZE", () -> ofEach(ChancesEdgesTest::ofSeven));
        Sentences.holds("UNLIKE", () -> ofEach(ChancesEdgesTest::unlike));
        Sentences.holds("also one that is CARRIED now", () -> ofEach(ChancesEdgesTest::oneThatIsCarried));
        Sentences.holds("ahead of each his MOOD is 1 more", ChancesEdgesTest::liftedAheadOfEach);
        Sentences.holds("9 at most", ChancesEdgesTest::liftedToNineAtMost);
        Sentences.holds("by p (0 .. 12) of 12", ChancesEdgesTest::twelfths);
        Sentences.holds("each by itself)", ChancesEdgesTest::eachByItself);
    }

    private static void oddsSentences() {
        Sentences.under("Promise 34: odds");
        Sentences.holds("Chances that these END at v (0 .. 54) or more together: 1", ChancesEdgesTest::oddsAtOrMore);
        Sentences.holds("BAD", ChancesEdgesTest::oddsBad);
        Sentences.holds("NOTHING", () -> ofNothing(ODDS));
        Sentences.holds("SIZE", () -> ofSeven(ODDS));
        Sentences.holds("UNLIKE", () -> unlike(ODDS));
    }

    private static void midSentences() {
        Sentences.under("Promise 35: mid");
        Sentences.holds("The mean of how warm these END together: 1", ChancesEdgesTest::midOfThese);
        Sentences.holds("BAD", ChancesEdgesTest::midBad);
        Sentences.holds("NOTHING", () -> ofNothing(MID));
        Sentences.holds("SIZE", () -> ofSeven(MID));
        Sentences.holds("UNLIKE", () -> unlike(MID));
    }

    private static void lotSentences() {
        Sentences.between("3 LOTS:", "Ahead of the calls `row`");
        Sentences.holds("3 LOTS: a number comes from the one ahead by 48271 times it modulo 2147483647", ChancesEdgesTest::numbers);
        Sentences.holds("the first from a seed (1 .. 2147483646)", ChancesEdgesTest::seeds);
    }

    private static void lotsSentences() {
        Sentences.under("Promise 36: lots");
        Sentences.holds("n (1 .. 20) DEEDS truly by LOTS of a seed", ChancesEdgesTest::oneToTwenty);
        Sentences.holds("for each a number (each a DEED, also where nothing becomes other by it)", ChancesEdgesTest::eachADeed);
        Sentences.holds("by what it by 8, cut, modulo 8 is", ChancesEdgesTest::byEight);
        Sentences.holds("0 to 4 LETTER it modulo how many there are is CARRIED (if it was not)", ChancesEdgesTest::lotCarries);
        Sentences.holds("5 a BRIBE of 1 more than it by 64, cut, modulo 9 (9 at most)", ChancesEdgesTest::lotBribes);
        Sentences.holds("6 the WEATHER is it by 64, cut, modulo 3", ChancesEdgesTest::lotWeathers);
        Sentences.holds("7 a DAY", ChancesEdgesTest::lotDays);
        Sentences.holds("all BONDS together then", ChancesEdgesTest::allBondsThen);
        Sentences.holds("BAD", ChancesEdgesTest::lotsBad);
        Sentences.holds("STATE: no LETTERS", ChancesEdgesTest::lotsWithoutLetters);
        Sentences.holds("FULL: with n more there would be more than 40 DEEDS", ChancesEdgesTest::lotsFull);
        Sentences.holds("(FULL last.)", ChancesEdgesTest::lotsFullLast);
    }

    private interface Weighed {
        int by(LetterEnds x, int r);
    }

    private static final Weighed ODDS = (x, r) -> x.odds(r, 0, 6);
    private static final Weighed MID = (x, r) -> x.mid(r, 6);

    private static void ofEach(java.util.function.Consumer<Weighed> sentence) {
        sentence.accept(ODDS);
        sentence.accept(MID);
    }

    private static void asTheRowHasThem() {
        LetterEnds x = Check.posted("p51h00v00t09");
        Check.rowOf(x, 0, 0, 1);
        Check.duePart("5, then 9", x, x.mid(0, 0), 14, 1);
        Check.rowOf(x, 0, 1, 0);
        Check.duePart("9, then 6", x, x.mid(0, 0), 15, 1);
        Check.duePart("9, then 6, odds(0, 15, 0)", x, x.odds(0, 15, 0), 1, 1);
        Check.due("they are not carried", x.count(7), 0);
        Check.due("mood", x.count(4), 5);
        onTheWay("p50h00h00h00f20f00", 3, 4);
        onTheWay("p51h00h00h00f20f00", 5, 10);
        onTheWay("p52h00h00h00f20f00", 7, 16);
    }

    /** A letter two houses off, then one back where he began. */
    private static void onTheWay(String signs, int there, int both) {
        LetterEnds x = Check.posted(signs);
        Check.rowOf(x, 0, 0);
        Check.duePart("mid in '" + signs + "'", x, x.mid(0, 0), there, 1);
        Check.rowOf(x, 0, 0, 1);
        Check.duePart("mid of both in '" + signs + "'", x, x.mid(0, 0), both, 1);
        Check.duePart("odds of both in '" + signs + "'", x, x.odds(0, both, 0), 1, 1);
        Check.duePart("odds of more in '" + signs + "'", x, x.odds(0, both + 1, 0), 0, 1);
    }

    private static void noneToSix() {
        LetterEnds x = Check.posted("p51h00t01t02t03t04t05t06");
        int sum = 0;
        for (int n = 0; n <= 6; n++) {
            x.row(0, n);
            for (int i = 0; i < n; i++) {
                x.lay(0, i, 5 - i);
            }
            sum += n == 0 ? 0 : 7 - n;
            Check.duePart("mid of " + n, x, x.mid(0, 5), sum, 1);
            Check.duePart("odds of " + n, x, x.odds(0, sum, 5), 1, 1);
        }
        LetterEnds none = new LetterEnds();
        none.row(0, 0);
        Check.duePart("without letters, odds of none", none, none.odds(0, 0, 5), 1, 1);
        Check.duePart("without letters, mid of none", none, none.mid(0, 5), 0, 1);
    }

    private static void badFirst() {
        LetterEnds x = Check.posted(SIX);
        Check.dueRefused("ahead of NOTHING, odds(0, 55, 6)", x, () -> x.odds(0, 55, 6), Check.BAD);
        Check.dueRefused("ahead of NOTHING, mid(0, 13)", x, () -> x.mid(0, 13), Check.BAD);
        x.row(0, 7);
        Check.dueRefused("ahead of SIZE, odds(0, 0, 13)", x, () -> x.odds(0, 0, 13), Check.BAD);
        Check.dueRefused("ahead of SIZE, mid(0, -1)", x, () -> x.mid(0, -1), Check.BAD);
        Check.rowOf(x, 0, 6);
        Check.dueRefused("ahead of UNLIKE, odds(0, -1, 6)", x, () -> x.odds(0, -1, 6), Check.BAD);
    }

    private static void ofNothing(Weighed these) {
        LetterEnds x = Check.posted(SIX);
        Check.dueFindings("row r", x, Check.NOTHING, r -> these.by(x, r), 0, 5);
        x.row(0, 0);
        x.tear(0);
        Check.dueFinding("torn", x, () -> these.by(x, 0), Check.NOTHING);
    }

    private static void ofSeven(Weighed these) {
        LetterEnds x = Check.posted(SIX);
        Check.rowOf(x, 0, 0, 1, 2, 3, 4, 5, 6);
        Check.dueFinding("seven", x, () -> these.by(x, 0), Check.SIZE);
        x.row(0, 40);
        Check.dueFinding("forty", x, () -> these.by(x, 0), Check.SIZE);
        Check.rowOf(x, 0, 0, 1, 2, 3, 4, 5);
        Check.due("six", these.by(x, 0), 1);
    }

    private static void unlike(Weighed these) {
        LetterEnds x = Check.posted("p51h00t01t02");
        x.row(0, 1);
        for (int l : new int[] {-1, 2, 6, 32, Check.LEAST, Check.MOST}) {
            x.lay(0, 0, l);
            Check.dueFinding("letter " + l, x, () -> these.by(x, 0), Check.UNLIKE);
        }
        Check.rowOf(x, 0, 1, 0, 1);
        Check.dueFinding("one twice", x, () -> these.by(x, 0), Check.UNLIKE);
        Check.rowOf(x, 0, 0, 1, 2);
        Check.dueFinding("no such letter behind others", x, () -> these.by(x, 0), Check.UNLIKE);
        LetterEnds none = new LetterEnds();
        none.row(0, 1);
        Check.dueFinding("without letters", none, () -> these.by(none, 0), Check.UNLIKE);
    }

    private static void oneThatIsCarried(Weighed these) {
        LetterEnds x = Check.posted("p51h00t01t02");
        Check.rowOf(x, 0, 0, 1);
        Check.due("none is carried", these.by(x, 0), 1);
        x.carry(1);
        Check.dueFinding("the last one is", x, () -> these.by(x, 0), Check.UNLIKE);
        Check.rowOf(x, 0, 0);
        Check.due("the others alone", these.by(x, 0), 1);
        Check.rowOf(x, 0, 1, 0);
        x.day();
        Check.due("on another day", these.by(x, 0), 1);
    }

    private static void liftedAheadOfEach() {
        LetterEnds x = Check.posted("p01h00f00f00f00f00f00f00");
        Check.rowOf(x, 0, 0, 1, 2, 3, 4, 5);
        Check.duePart("1, 2, .. 6", x, x.mid(0, 12), 21, 1);
        // the lift comes ahead of the walk, in which the rain takes it
        LetterEnds y = Check.posted("p00h00h00f10");
        Check.rowOf(y, 0, 0);
        Check.duePart("lifted, then rained on", y, y.mid(0, 12), 0, 1);
        Check.duePart("lifted, then rained on, odds", y, y.odds(0, 1, 12), 0, 1);
    }

    private static void liftedToNineAtMost() {
        LetterEnds x = Check.posted("p91h00f00");
        Check.rowOf(x, 0, 0);
        Check.duePart("9 in dull weather", x, x.mid(0, 12), 9, 1);
        LetterEnds y = Check.posted("p90h00h00f10");
        Check.rowOf(y, 0, 0);
        Check.duePart("9 lifted in rain", y, y.mid(0, 12), 8, 1);
        Check.duePart("9 lifted in rain, odds", y, y.odds(0, 9, 12), 0, 1);
    }

    private static void twelfths() {
        LetterEnds x = Check.posted("p51h00f00");
        Check.rowOf(x, 0, 0);
        long[] up = {0, 1, 1, 1, 1, 5, 1, 7, 2, 3, 5, 11, 1};
        long[] low = {1, 12, 6, 4, 3, 12, 2, 12, 3, 4, 6, 12, 1};
        for (int p = 0; p <= 12; p++) {
            Check.duePart("odds(0, 6, " + p + ")", x, x.odds(0, 6, p), up[p], low[p]);
            Check.duePart("odds(0, 5, " + p + ")", x, x.odds(0, 5, p), 1, 1);
        }
    }

    private static void eachByItself() {
        LetterEnds x = Check.posted("p01h00f00f00f00f00f00f00");
        Check.rowOf(x, 0, 0, 1, 2, 3, 4, 5);
        Check.duePart("all are lifted", x, x.odds(0, 21, 1), 1, 2985984);
        Check.duePart("none is lifted", x, x.odds(0, 1, 11), 2985983, 2985984);
        Check.rowOf(x, 0, 0, 1);
        // lifted first: 2, or 3 with the other; lifted behind it: 1
        Check.duePart("3", x, x.odds(0, 3, 3), 1, 16);
        Check.duePart("2 or more", x, x.odds(0, 2, 3), 1, 4);
        Check.duePart("1 or more", x, x.odds(0, 1, 3), 7, 16);
    }

    private static void oddsAtOrMore() {
        LetterEnds x = Check.posted("p91h00f09f09f09f09f09f09");
        Check.rowOf(x, 0, 0, 1, 2, 3, 4, 5);
        Check.duePart("odds(0, 54, 0)", x, x.odds(0, 54, 0), 1, 1);
        Check.rowOf(x, 0, 0, 1, 2, 3, 4);
        Check.duePart("odds(0, 54, 0) of five", x, x.odds(0, 54, 0), 0, 1);
        Check.duePart("odds(0, 45, 0) of five", x, x.odds(0, 45, 0), 1, 1);
        Check.duePart("odds(0, 46, 0) of five", x, x.odds(0, 46, 0), 0, 1);
        LetterEnds y = Check.posted("p01h00t00");
        Check.rowOf(y, 0, 0);
        Check.duePart("odds(0, 0, 0) of 0", y, y.odds(0, 0, 0), 1, 1);
        Check.duePart("odds(0, 1, 0) of 0", y, y.odds(0, 1, 0), 0, 1);
    }

    private static void oddsBad() {
        LetterEnds x = Check.posted(SIX);
        x.row(0, 0);
        Check.dueBounds("odds(r, 0, 0)", x, 0, 5, r -> x.odds(r, 0, 0));
        LetterEnds y = Check.posted(SIX);
        y.row(0, 0);
        Check.dueBounds("odds(0, v, 0)", y, 0, 54, v -> y.odds(0, v, 0));
        LetterEnds z = Check.posted(SIX);
        z.row(0, 0);
        Check.dueBounds("odds(0, 0, p)", z, 0, 12, p -> z.odds(0, 0, p));
    }

    private static void midOfThese() {
        LetterEnds x = Check.posted("p51h00v00v00");
        Check.rowOf(x, 0, 0, 1);
        // 5 and 5, 5 and 6, 6 and 7, 6 and 8, as a love letter at 6 turns his mood
        Check.duePart("mid(0, 0)", x, x.mid(0, 0), 10, 1);
        Check.duePart("mid(0, 6)", x, x.mid(0, 6), 12, 1);
        Check.duePart("mid(0, 12)", x, x.mid(0, 12), 14, 1);
        LetterEnds most = Check.posted("p91h00f09f09f09f09f09f09");
        Check.rowOf(most, 0, 0, 1, 2, 3, 4, 5);
        Check.duePart("the most", most, most.mid(0, 7), 54, 1);
    }

    private static void midBad() {
        LetterEnds x = Check.posted(SIX);
        x.row(0, 0);
        Check.dueBounds("mid(r, 0)", x, 0, 5, r -> x.mid(r, 0));
        LetterEnds y = Check.posted(SIX);
        y.row(0, 0);
        Check.dueBounds("mid(0, p)", y, 0, 12, p -> y.mid(0, p));
    }

    /** By 1 the numbers are 48271, 182605794, 1291394886, 1914720637: letters 1, 0, then 0 again, then a day. */
    private static void numbers() {
        int[] carried = {0, 2, 3, 3, 0};
        for (int n = 1; n <= 4; n++) {
            LetterEnds x = Check.posted(SIX);
            x.lots(n, 1);
            Check.due("lots(" + n + ", 1), carried", x.count(7), carried[n]);
            Check.due("lots(" + n + ", 1), day", x.count(2), n == 4 ? 1 : 0);
            Check.due("lots(" + n + ", 1), deeds", x.count(3), n);
        }
    }

    /** By 2147483646 the numbers are 2147435376, 1964877853, 856088761: rain, letter 1, then a day. */
    private static void seeds() {
        LetterEnds x = Check.posted("p51h00t00t00t00t00t00t00");
        x.lots(1, 2147483646);
        Check.due("weather", x.count(5), 0);
        LetterEnds y = Check.posted("p51h00t00t00t00t00t00t00");
        y.lots(2, 2147483646);
        Check.due("carried", y.count(7), 2);
        LetterEnds z = Check.posted("p51h00t00t00t00t00t00t00");
        z.lots(3, 2147483646);
        Check.due("day", z.count(2), 1);
        LetterEnds w = Check.posted(SIX);
        Check.dueBounds("lots(1, seed)", w, 1, 2147483646, seed -> w.lots(1, seed));
    }

    private static void oneToTwenty() {
        LetterEnds x = Check.posted(SIX);
        x.lots(1, 4);
        Check.due("one deed, a day", x.count(2), 1);
        Check.due("one deed", x.count(3), 1);
        x.lots(20, 4);
        Check.due("twenty more", x.count(3), 21);
        LetterEnds y = Check.posted(SIX);
        y.lots(20, 4);
        LetterEnds z = Check.posted(SIX);
        z.lots(20, 4);
        Check.due("the same by the same seed", y.digest(), z.digest());
        Check.due("truly: they are undone", y.undo(0), 20);
        Check.due("truly: as at first", y.digest(), Check.posted(SIX).digest());
    }

    private static void eachADeed() {
        LetterEnds carried = Check.posted(SIX);
        carried.carry(1);
        dueDeedWithoutChange(carried, 1);
        LetterEnds bribed = Check.posted("p91h00t00");
        dueDeedWithoutChange(bribed, 20);
        LetterEnds so = Check.posted("p50h00t00");
        dueDeedWithoutChange(so, 25);
    }

    private static void dueDeedWithoutChange(LetterEnds x, int seed) {
        int deeds = x.count(3);
        int[] before = new int[9];
        for (int what = 0; what < 9; what++) {
            before[what] = x.count(what) + (what == 3 ? 1 : 0);
        }
        x.lots(1, seed);
        for (int what = 0; what < 9; what++) {
            Check.due("lots(1, " + seed + "), count(" + what + ")", x.count(what), before[what]);
        }
        Check.due("it is undone", x.undo(deeds), 1);
    }

    /** One seed for each of what its first number by 8, cut, modulo 8 can be, from 0 on. */
    private static void byEight() {
        int[] seeds = {30, 18, 48, 6, 96, 20, 25, 4};
        for (int choice = 0; choice < 8; choice++) {
            LetterEnds x = Check.posted("p51h00t00t00t00t00t00t00");
            x.lots(1, seeds[choice]);
            String call = "choice " + choice;
            Check.due(call + ", carried", x.count(7), choice <= 4 ? 1 : 0);
            Check.due(call + ", mood", x.count(4), choice <= 4 ? 4 : choice == 5 ? 6 : 5);
            Check.due(call + ", weather", x.count(5), choice == 6 ? 0 : 1);
            Check.due(call + ", day", x.count(2), choice == 7 ? 1 : 0);
        }
    }

    private static void lotCarries() {
        int[] seeds = {96, 79, 32, 15, 28, 11};
        for (int l = 0; l < 6; l++) {
            LetterEnds x = Check.posted(SIX);
            x.lots(1, seeds[l]);
            Check.due("letter " + l + " of six", x.count(7), 1 << l);
        }
        // 48271 is 1 modulo 2, 3 and 5, 3 modulo 4, and letter 0 where there is one alone
        int[] carried = {0, 1, 2, 2, 8, 2};
        for (int many = 1; many <= 5; many++) {
            LetterEnds x = Check.posted("p51h00" + "t05".repeat(many));
            x.lots(1, 1);
            Check.due("of " + many, x.count(7), carried[many]);
            x.lots(1, 1);
            Check.due("of " + many + ", carried before", x.count(7), carried[many]);
        }
    }

    private static void lotBribes() {
        int[] seeds = {20, 50, 24, 3, 33, 7, 37, 67, 97};
        for (int n = 1; n <= 9; n++) {
            LetterEnds x = Check.posted("p01h00t00");
            x.lots(1, seeds[n - 1]);
            Check.due("a bribe of " + n + " at 0", x.count(4), n);
            LetterEnds y = Check.posted("p51h00t00");
            y.lots(1, seeds[n - 1]);
            Check.due("a bribe of " + n + " at 5", y.count(4), n < 4 ? 5 + n : 9);
        }
    }

    private static void lotWeathers() {
        int[] seeds = {25, 16, 12};
        for (int was = 0; was <= 2; was++) {
            for (int is = 0; is <= 2; is++) {
                LetterEnds x = Check.posted("p5" + was + "h00t00");
                x.lots(1, seeds[is]);
                Check.due("weather " + is + " where it was " + was, x.count(5), is);
                Check.due("a deed", x.count(3), 1);
            }
        }
    }

    private static void lotDays() {
        LetterEnds x = Check.posted(SIX);
        x.carry(5);
        Check.due("lots(1, 4)", x.lots(1, 4), 33);
        Check.due("day", x.count(2), 1);
        Check.due("carried", x.count(7), 0);
        Check.due("where he stands", x.count(6), 0);
    }

    private static void allBondsThen() {
        LetterEnds x = Check.posted("p51h10h20h00t05t05t09t09t00t00");
        Check.due("a day: as they were", x.lots(1, 4), 30);
        LetterEnds y = Check.posted("p51h20h20h20h20h20h20t09");
        Check.due("a letter: no more than 120", y.lots(1, 1), 120);
        LetterEnds z = Check.posted("p51h10h20h00t09");
        Check.due("a letter: 4 more", z.lots(1, 1), 34);
        Check.due("none of six", Check.posted("p51h00h00h00h00h00h00t00").lots(1, 1), 0);
    }

    private static void lotsBad() {
        LetterEnds x = Check.posted(SIX);
        Check.dueBounds("lots(n, 1)", x, 1, 20, n -> x.lots(n, 1));
        LetterEnds y = Check.posted(SIX);
        IntUnaryOperator bySeed = seed -> y.lots(1, seed);
        Check.dueBounds("lots(1, seed)", y, 1, 2147483646, bySeed);
    }

    private static void lotsWithoutLetters() {
        LetterEnds x = new LetterEnds();
        Check.dueRefused("lots(1, 1)", x, () -> x.lots(1, 1), Check.STATE);
        Check.dueRefused("lots(20, 2147483646)", x, () -> x.lots(20, 2147483646), Check.STATE);
    }

    private static void lotsFull() {
        LetterEnds x = Check.posted(SIX);
        x.lots(20, 1);
        Check.due("twenty and twenty are not refused", x.lots(20, 1) >= 0 ? 1 : 0, 1);
        Check.due("deeds", x.count(3), 40);
        Check.dueRefused("lots(1, 1) behind 40", x, () -> x.lots(1, 1), Check.FULL);
        x.undo(21);
        Check.dueRefused("lots(20, 1) behind 21", x, () -> x.lots(20, 1), Check.FULL);
        Check.due("lots(19, 1) behind 21 are not refused", x.lots(19, 1) >= 0 ? 1 : 0, 1);
        x.undo(39);
        Check.dueRefused("lots(2, 1) behind 39", x, () -> x.lots(2, 1), Check.FULL);
        Check.due("lots(1, 1) behind 39 are not refused", x.lots(1, 1) >= 0 ? 1 : 0, 1);
    }

    private static void lotsFullLast() {
        LetterEnds x = Check.posted(SIX);
        x.lots(20, 1);
        x.lots(20, 1);
        Check.dueRefused("BAD ahead of FULL, n", x, () -> x.lots(21, 1), Check.BAD);
        Check.dueRefused("BAD ahead of FULL, the seed", x, () -> x.lots(1, 0), Check.BAD);
        LetterEnds none = new LetterEnds();
        Check.dueRefused("BAD ahead of STATE", none, () -> none.lots(21, 1), Check.BAD);
    }
}
