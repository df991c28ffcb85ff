/** DAYS, walks, BONDS, MOODS, DEEDS, promises 15 to 21, sentence by sentence. */
public final class DeedsEdgesTest {
    private static final String ROAD = "p51h10h10h10h10h10h10";

    public static void main(String[] args) {
        walkSentences();
        deedSentences();
        carryAndBribeSentences();
        weatherAndDaySentences();
        undoAndKeepSentences();
        Sentences.finish();
    }

    private static void walkSentences() {
        Sentences.between("2 DAY 0", "A BRIBE makes");
        Sentences.holds("2 DAY 0 is at first", DeedsEdgesTest::dayAtFirst);
        Sentences.holds("he stands at HOUSE 0, no LETTER was CARRIED", DeedsEdgesTest::standsAtFirst);
        Sentences.holds("A LETTER is CARRIED: he walks to its HOUSE", DeedsEdgesTest::walksToItsHouse);
        Sentences.holds("for each HOUSE that it is further along, either way", DeedsEdgesTest::eitherWay);
        Sentences.holds("his MOOD is 1 less in rain", DeedsEdgesTest::lessInRain);
        Sentences.holds("1 more in sun", DeedsEdgesTest::moreInSun);
        Sentences.holds("as it is when it is dull", DeedsEdgesTest::asItIsWhenDull);
        Sentences.holds("then it ENDS", DeedsEdgesTest::endsBehindTheWalk);
        Sentences.holds("the BOND of its HOUSE is more by how much it ENDS above 5, or less by how much below", DeedsEdgesTest::bondByEnd);
        Sentences.holds("(0 .. 20 always)", DeedsEdgesTest::bondAlwaysWithin);
        Sentences.holds("then it TURNS his MOOD", DeedsEdgesTest::turnsLast);
        Sentences.holds("MOOD is 0 .. 9 always (what would be less is 0, more is 9, at each of these)", DeedsEdgesTest::moodAlwaysWithin);
    }

    private static void deedSentences() {
        Sentences.between("A BRIBE makes", "======== 3");
        Sentences.holds("A BRIBE makes his MOOD more", DeedsEdgesTest::bribeMakesMore);
        Sentences.holds("The WEATHER changes", DeedsEdgesTest::weatherChanges);
        Sentences.holds("A DAY: he stands at HOUSE 0, no LETTER was CARRIED", DeedsEdgesTest::dayBeginsAnew);
        Sentences.holds("What is done: a LETTER is CARRIED, a BRIBE, the WEATHER, a DAY", DeedsEdgesTest::fourAreDeeds);
        Sentences.holds("These are DEEDS 0, 1, ..", DeedsEdgesTest::deedsByNumber);
        Sentences.holds("(40 at most)", DeedsEdgesTest::fortyDeeds);
    }

    private static void carryAndBribeSentences() {
        Sentences.under("Promise 15: carry");
        Sentences.holds("A LETTER is CARRIED: as how warm it ENDS", DeedsEdgesTest::carryTellsHowWarm);
        Sentences.holds("BAD", DeedsEdgesTest::carryBad);
        Sentences.holds("STATE: it was", DeedsEdgesTest::carriedBefore);
        Sentences.holds("FULL: 40 DEEDS", DeedsEdgesTest::carryFull);
        Sentences.holds("(FULL last.)", DeedsEdgesTest::carryFullLast);
        Sentences.under("Promise 16: bribe");
        Sentences.holds("A BRIBE of n (1 .. 9): his MOOD then", DeedsEdgesTest::bribeTellsHisMood);
        Sentences.holds("BAD", DeedsEdgesTest::bribeBad);
        Sentences.holds("STATE: no LETTERS", DeedsEdgesTest::bribeWithoutLetters);
        Sentences.holds("or his MOOD is 9", DeedsEdgesTest::bribeAtNine);
        Sentences.holds("FULL", DeedsEdgesTest::bribeFull);
        Sentences.holds("(FULL last.)", DeedsEdgesTest::bribeFullLast);
    }

    private static void weatherAndDaySentences() {
        Sentences.under("Promise 17: weather");
        Sentences.holds("The WEATHER (0 .. 2): what it was", DeedsEdgesTest::weatherTellsWhatItWas);
        Sentences.holds("BAD", DeedsEdgesTest::weatherBad);
        Sentences.holds("STATE: no LETTERS", DeedsEdgesTest::weatherWithoutLetters);
        Sentences.holds("or it is so", DeedsEdgesTest::weatherIsSo);
        Sentences.holds("FULL", DeedsEdgesTest::weatherFull);
        Sentences.holds("(FULL last.)", DeedsEdgesTest::weatherFullLast);
        Sentences.under("Promise 18: day");
        Sentences.holds("A DAY: how many LETTERS were CARRIED", DeedsEdgesTest::dayTellsHowMany);
        Sentences.holds("STATE: no LETTERS", DeedsEdgesTest::dayWithoutLetters);
        Sentences.holds("FULL", DeedsEdgesTest::dayFull);
        Sentences.holds("(FULL last.)", DeedsEdgesTest::dayFullLast);
    }

    private static void undoAndKeepSentences() {
        Sentences.under("Promise 19: undo");
        Sentences.holds("DEEDS from number n on", DeedsEdgesTest::undoesFromNumber);
        Sentences.holds("(0 to how many there are: none then)", DeedsEdgesTest::undoesAllOrNone);
        Sentences.holds("are undone: how many", DeedsEdgesTest::undoTellsHowMany);
        Sentences.holds("BAD", DeedsEdgesTest::undoBad);
        Sentences.under("Promise 20: keep");
        Sentences.holds("The POST (as it is, DEEDS) is kept in a place (0 .. 2)", DeedsEdgesTest::keepsInThreePlaces);
        Sentences.holds("how many DEEDS", DeedsEdgesTest::keepTellsHowMany);
        Sentences.holds("BAD", DeedsEdgesTest::keepBad);
        Sentences.holds("STATE: no LETTERS", DeedsEdgesTest::keepWithoutLetters);
        Sentences.under("Promise 21: on");
        Sentences.holds("The POST is as it was kept", DeedsEdgesTest::onAsItWasKept);
        Sentences.holds("how many DEEDS", DeedsEdgesTest::onTellsHowMany);
        Sentences.holds("BAD", DeedsEdgesTest::onBad);
        Sentences.holds("NOTHING", DeedsEdgesTest::onOfNothing);
    }

    /** Deeds that change the weather alone, up to so many. */
    private static void fill(LetterEnds x, int upTo) {
        int weather = x.count(5);
        for (int deeds = x.count(3); deeds < upTo; deeds++) {
            weather = weather == 0 ? 2 : 0;
            x.weather(weather);
        }
        Check.due("deeds", x.count(3), upTo);
    }

    private static void dueMood(String signs, int warm, int mood) {
        LetterEnds x = Check.posted(signs);
        Check.due("carry(0) in '" + signs + "'", x.carry(0), warm);
        Check.due("mood behind '" + signs + "'", x.count(4), mood);
    }

    private static void dayAtFirst() {
        LetterEnds x = Check.posted(ROAD + "l00");
        Check.due("the day", x.count(2), 0);
        x.day();
        Check.due("the next one", x.count(2), 1);
        x.undo(0);
        Check.due("undone", x.count(2), 0);
    }

    private static void standsAtFirst() {
        LetterEnds x = Check.posted(ROAD + "l00l50");
        Check.due("where he stands", x.count(6), 0);
        Check.due("what is carried", x.count(7), 0);
    }

    private static void walksToItsHouse() {
        LetterEnds x = Check.posted(ROAD + "l50l00l30");
        x.carry(0);
        Check.due("at the last house", x.count(6), 5);
        x.carry(1);
        Check.due("at the first house", x.count(6), 0);
        x.carry(2);
        Check.due("between", x.count(6), 3);
        Check.due("carried", x.count(7), 7);
    }

    private static void eitherWay() {
        LetterEnds x = Check.posted("p50h00h00h00h00h00h00k25k05k15k15");
        x.carry(0);
        Check.due("two along", x.count(4), 3);
        x.carry(1);
        Check.due("two back", x.count(4), 1);
        x.carry(2);
        Check.due("one along", x.count(4), 0);
        x.weather(2);
        x.carry(3);
        Check.due("none", x.count(4), 0);
    }

    private static void lessInRain() {
        dueMood("p50h00h00h00h00h00h00k05", 5, 5);
        dueMood("p50h00h00h00h00h00h00k15", 5, 4);
        dueMood("p50h00h00h00h00h00h00k45", 5, 1);
        dueMood("p50h00h00h00h00h00h00k55", 5, 0);
        dueMood("p40h00h00h00h00h00h00k55", 5, 0);
    }

    private static void moreInSun() {
        dueMood("p42h00h00h00h00h00h00k05", 5, 4);
        dueMood("p42h00h00h00h00h00h00k15", 5, 5);
        dueMood("p42h00h00h00h00h00h00k55", 5, 9);
        dueMood("p52h00h00h00h00h00h00k55", 5, 9);
    }

    private static void asItIsWhenDull() {
        dueMood("p51h00h00h00h00h00h00k55", 5, 5);
        dueMood("p01h00h00h00h00h00h00k55", 5, 0);
        dueMood("p91h00h00h00h00h00h00k55", 5, 9);
    }

    private static void endsBehindTheWalk() {
        dueMood("p50h00h00h00f20", 3, 3);
        dueMood("p52h00h00h00f20", 7, 7);
        dueMood("p51h00h00h00f20", 5, 5);
    }

    private static void bondByEnd() {
        LetterEnds x = Check.posted(ROAD + "t00t14t25t36t49");
        int[] bonds = {5, 9, 10, 11, 14, 10};
        for (int l = 0; l < 5; l++) {
            x.carry(l);
        }
        for (int h = 0; h < 6; h++) {
            Check.dueAsked("house(" + h + ", 0)", x, x.house(h, 0), bonds[h]);
        }
    }

    private static void bondAlwaysWithin() {
        LetterEnds x = Check.posted("p51h17h04t09t04t10t19");
        x.carry(0);
        Check.dueAsked("17 and 4 are 20", x, x.house(0, 0), 20);
        x.carry(1);
        Check.dueAsked("1 less than 20", x, x.house(0, 0), 19);
        x.carry(2);
        Check.dueAsked("5 less than 4", x, x.house(1, 0), 0);
        x.carry(3);
        Check.dueAsked("4 more than 0", x, x.house(1, 0), 4);
    }

    private static void turnsLast() {
        dueMood("p51h00v01", 6, 6);
        dueMood("p31h00v00", 3, 2);
        dueMood("p51h00v00", 5, 5);
    }

    private static void moodAlwaysWithin() {
        dueMood("p10h00h00h00h00k39", 9, 1);
        dueMood("p82h00h00h00h00t30", 0, 8);
        dueMood("p91h00t09", 9, 9);
        dueMood("p01h00t00", 0, 0);
        LetterEnds x = Check.posted("p51h00t00");
        Check.due("bribe(9)", x.bribe(9), 9);
        x.carry(0);
        Check.due("1 less than 9", x.count(4), 8);
    }

    private static void bribeMakesMore() {
        LetterEnds x = Check.posted(ROAD + "v50");
        x.bribe(3);
        Check.due("mood", x.count(4), 8);
        Check.due("a letter ends by it", x.carry(0), 8);
    }

    private static void weatherChanges() {
        LetterEnds x = Check.posted(ROAD + "v50");
        x.weather(0);
        Check.due("rain", x.count(5), 0);
        Check.due("mood stays", x.count(4), 5);
        x.weather(2);
        Check.due("a letter ends by it", x.carry(0), 9);
    }

    private static void dayBeginsAnew() {
        LetterEnds x = Check.posted("p50h10h10h10t29t10");
        x.carry(0);
        x.weather(2);
        x.day();
        Check.due("where he stands", x.count(6), 0);
        Check.due("carried", x.count(7), 0);
        Check.due("mood stays", x.count(4), 4);
        Check.due("weather stays", x.count(5), 2);
        Check.due("bonds stay", x.count(8), 34);
        Check.due("a letter is carried anew", x.carry(0), 9);
        Check.due("from house 0", x.count(4), 7);
    }

    private static void fourAreDeeds() {
        LetterEnds x = Check.posted(ROAD + "t00");
        x.carry(0);
        Check.due("a letter", x.count(3), 1);
        x.bribe(1);
        Check.due("a bribe", x.count(3), 2);
        x.weather(0);
        Check.due("the weather", x.count(3), 3);
        x.day();
        Check.due("a day", x.count(3), 4);
        x.keep(0);
        x.on(0);
        x.round(1, 0);
        x.duel(1);
        Check.due("nothing else", x.count(3), 4);
    }

    private static void deedsByNumber() {
        LetterEnds x = Check.posted(ROAD + "t05");
        x.bribe(1);
        x.bribe(1);
        x.bribe(1);
        x.undo(2);
        Check.due("without deed 2", x.count(4), 7);
        x.undo(1);
        Check.due("without deed 1", x.count(4), 6);
        x.undo(0);
        Check.due("without deed 0", x.count(4), 5);
    }

    private static void fortyDeeds() {
        LetterEnds x = Check.posted(ROAD + "t05");
        for (int deeds = 0; deeds < 40; deeds++) {
            Check.due("a day as deed " + deeds, x.day(), 0);
        }
        Check.due("deeds", x.count(3), 40);
        Check.dueRefused("deed 40", x, () -> x.day(), Check.FULL);
        x.undo(39);
        Check.due("a letter as deed 39", x.carry(0), 5);
    }

    private static void carryTellsHowWarm() {
        LetterEnds x = Check.posted(ROAD + "l00t09b00v00k00f00");
        int[] warm = {2, 9, 5, 5, 5, 5};
        for (int l = 0; l < 6; l++) {
            Check.due("carry(" + l + ")", x.carry(l), warm[l]);
        }
        Check.due("a letter that ends at 0", Check.posted("p51h00t00").carry(0), 0);
    }

    private static void carryBad() {
        LetterEnds x = Check.posted(Check.SIX);
        Check.dueBounds("carry(l)", x, 0, 5, l -> x.carry(l));
        LetterEnds one = Check.posted("p51h00h00l00");
        Check.dueRefused("of one letter, carry(1)", one, () -> one.carry(1), Check.BAD);
        one.carry(0);
        // a set of bits would take 32 for 0
        Check.dueRefused("letter 0 carried, carry(32)", one, () -> one.carry(32), Check.BAD);
        LetterEnds none = new LetterEnds();
        Check.dueRefused("of none, carry(0)", none, () -> none.carry(0), Check.BAD);
    }

    private static void carriedBefore() {
        LetterEnds x = Check.posted(Check.SIX);
        x.carry(5);
        Check.dueRefused("carry(5)", x, () -> x.carry(5), Check.STATE);
        x.carry(0);
        Check.dueRefused("carry(5) later", x, () -> x.carry(5), Check.STATE);
        x.undo(0);
        Check.due("undone, carry(5)", x.carry(5), 9);
        x.day();
        Check.due("on another day, carry(5)", x.carry(5), 7);
    }

    private static void carryFull() {
        LetterEnds x = Check.posted("p51h10t05t05");
        fill(x, 39);
        Check.due("the 40th, carry(0)", x.carry(0), 5);
        Check.dueRefused("carry(1)", x, () -> x.carry(1), Check.FULL);
    }

    private static void carryFullLast() {
        LetterEnds x = Check.posted("p51h10t05t05");
        x.carry(0);
        fill(x, 40);
        Check.dueRefused("carry(2)", x, () -> x.carry(2), Check.BAD);
        Check.dueRefused("carry(0)", x, () -> x.carry(0), Check.STATE);
        Check.dueRefused("carry(1)", x, () -> x.carry(1), Check.FULL);
    }

    private static void bribeTellsHisMood() {
        for (int n = 1; n <= 9; n++) {
            Check.due("bribe(" + n + ") at 0", Check.posted("p01h00t00").bribe(n), n);
            Check.due("bribe(" + n + ") at 5", Check.posted("p51h00t00").bribe(n), n < 4 ? 5 + n : 9);
        }
        Check.due("bribe(1) at 8", Check.posted("p81h00t00").bribe(1), 9);
    }

    private static void bribeBad() {
        LetterEnds x = Check.posted("p01h00t00");
        Check.dueBounds("bribe(n)", x, 1, 9, n -> x.bribe(n));
        LetterEnds y = Check.posted("p91h00t00");
        Check.dueRefused("at 9, bribe(0)", y, () -> y.bribe(0), Check.BAD);
    }

    private static void bribeWithoutLetters() {
        LetterEnds x = new LetterEnds();
        Check.dueRefused("bribe(1)", x, () -> x.bribe(1), Check.STATE);
        Check.dueRefused("bribe(9)", x, () -> x.bribe(9), Check.STATE);
    }

    private static void bribeAtNine() {
        LetterEnds x = Check.posted("p91h00t00");
        Check.dueRefused("bribe(1)", x, () -> x.bribe(1), Check.STATE);
        Check.dueRefused("bribe(9)", x, () -> x.bribe(9), Check.STATE);
        x.carry(0);
        Check.due("at 8, bribe(1)", x.bribe(1), 9);
        Check.dueRefused("at 9 again, bribe(1)", x, () -> x.bribe(1), Check.STATE);
    }

    private static void bribeFull() {
        LetterEnds x = Check.posted("p51h00t00");
        fill(x, 39);
        Check.due("the 40th, bribe(1)", x.bribe(1), 6);
        Check.dueRefused("bribe(1)", x, () -> x.bribe(1), Check.FULL);
    }

    private static void bribeFullLast() {
        LetterEnds x = Check.posted("p51h00t00");
        fill(x, 39);
        x.bribe(9);
        Check.dueRefused("bribe(10)", x, () -> x.bribe(10), Check.BAD);
        Check.dueRefused("at 9, bribe(1)", x, () -> x.bribe(1), Check.STATE);
    }

    private static void weatherTellsWhatItWas() {
        for (int was = 0; was <= 2; was++) {
            for (int is = 0; is <= 2; is++) {
                LetterEnds x = Check.posted("p5" + was + "h00t00");
                Check.due(was + " to " + is, x.weather(is), was == is ? Check.STATE : was);
                Check.due(was + " to " + is + ", it is", x.count(5), is);
            }
        }
    }

    private static void weatherBad() {
        LetterEnds x = Check.posted("p51h00t00");
        Check.dueBounds("weather(w)", x, 0, 2, w -> x.weather(w));
    }

    private static void weatherWithoutLetters() {
        LetterEnds x = new LetterEnds();
        for (int w = 0; w <= 2; w++) {
            int weather = w;
            Check.dueRefused("weather(" + w + ")", x, () -> x.weather(weather), Check.STATE);
        }
    }

    private static void weatherIsSo() {
        LetterEnds x = Check.posted("p50h00t00");
        Check.dueRefused("weather(0)", x, () -> x.weather(0), Check.STATE);
        Check.due("weather(2)", x.weather(2), 0);
        Check.dueRefused("weather(2)", x, () -> x.weather(2), Check.STATE);
        x.undo(0);
        Check.dueRefused("undone, weather(0)", x, () -> x.weather(0), Check.STATE);
    }

    private static void weatherFull() {
        LetterEnds x = Check.posted("p51h00t00");
        fill(x, 39);
        Check.due("the 40th, weather(1)", x.weather(1), 0);
        Check.dueRefused("weather(0)", x, () -> x.weather(0), Check.FULL);
        Check.dueRefused("weather(2)", x, () -> x.weather(2), Check.FULL);
    }

    private static void weatherFullLast() {
        LetterEnds x = Check.posted("p51h00t00");
        fill(x, 40);
        Check.dueRefused("weather(3)", x, () -> x.weather(3), Check.BAD);
        Check.dueRefused("weather as it is", x, () -> x.weather(2), Check.STATE);
    }

    private static void dayTellsHowMany() {
        LetterEnds x = Check.posted(Check.SIX);
        Check.due("none", x.day(), 0);
        x.carry(5);
        Check.due("the last one", x.day(), 1);
        for (int l = 0; l < 6; l++) {
            x.carry(l);
        }
        Check.due("all", x.day(), 6);
        Check.due("none of the day before", x.day(), 0);
        Check.due("the day", x.count(2), 4);
    }

    private static void dayWithoutLetters() {
        LetterEnds x = new LetterEnds();
        Check.dueRefused("day()", x, () -> x.day(), Check.STATE);
    }

    private static void dayFull() {
        LetterEnds x = Check.posted("p51h00t05");
        x.carry(0);
        fill(x, 39);
        Check.due("the 40th, day()", x.day(), 1);
        Check.dueRefused("day()", x, () -> x.day(), Check.FULL);
    }

    private static void dayFullLast() {
        LetterEnds x = new LetterEnds();
        Check.dueRefused("without letters: STATE", x, () -> x.day(), Check.STATE);
        LetterEnds y = Check.posted("p51h00t05");
        fill(y, 40);
        Check.dueRefused("with letters: FULL", y, () -> y.day(), Check.FULL);
    }

    /** A deed of each kind, more than once; digests[n] is told behind n of them. */
    private static LetterEnds done(long[] digests) {
        LetterEnds x = Check.posted("p40h10h10h10t29v15f08");
        for (int n = 0; n <= 8; n++) {
            digests[n] = x.digest();
            switch (n) {
                case 0 -> x.carry(0);
                case 1 -> x.bribe(9);
                case 2 -> x.weather(2);
                case 3 -> x.carry(1);
                case 4 -> x.day();
                case 5 -> x.carry(1);
                case 6 -> x.weather(1);
                case 7 -> x.carry(2);
                default -> Check.due("deeds", x.count(3), 8);
            }
        }
        return x;
    }

    private static void undoesFromNumber() {
        for (int n = 0; n <= 8; n++) {
            long[] digests = new long[9];
            LetterEnds x = done(digests);
            x.undo(n);
            Check.due("undo(" + n + "), digest()", x.digest(), digests[n]);
            Check.due("undo(" + n + "), deeds", x.count(3), n);
        }
    }

    private static void undoesAllOrNone() {
        long[] digests = new long[9];
        LetterEnds x = done(digests);
        Check.due("undo(8)", x.undo(8), 0);
        Check.due("undo(8), digest()", x.digest(), digests[8]);
        Check.due("undo(0)", x.undo(0), 8);
        Check.due("undo(0), digest()", x.digest(), digests[0]);
        Check.due("undo(0) of none", x.undo(0), 0);
        LetterEnds none = new LetterEnds();
        Check.due("without letters, undo(0)", none.undo(0), 0);
    }

    private static void undoTellsHowMany() {
        LetterEnds x = done(new long[9]);
        Check.due("undo(7)", x.undo(7), 1);
        Check.due("undo(4)", x.undo(4), 3);
        x.day();
        Check.due("undo(3)", x.undo(3), 2);
        fill(x, 40);
        Check.due("undo(0) of forty", x.undo(0), 40);
    }

    private static void undoBad() {
        LetterEnds x = done(new long[9]);
        Check.dueBounds("undo(n)", x, 0, 8, n -> n == 0 ? 0 : x.undo(n));
        LetterEnds none = new LetterEnds();
        Check.dueRefused("without letters, undo(1)", none, () -> none.undo(1), Check.BAD);
        Check.dueRefused("without letters, undo(-1)", none, () -> none.undo(-1), Check.BAD);
    }

    private static void keepsInThreePlaces() {
        LetterEnds x = Check.posted("p51h10h10t19");
        for (int k = 0; k <= 2; k++) {
            Check.due("keep(" + k + ")", x.keep(k), k);
            x.bribe(1);
        }
        Check.due("kept", x.count(13), 3);
        for (int k = 2; k >= 0; k--) {
            Check.due("on(" + k + ")", x.on(k), k);
            Check.due("on(" + k + "), mood", x.count(4), 5 + k);
        }
        Check.due("kept once more in its place", x.keep(2), 0);
        Check.due("kept", x.count(13), 3);
        x.bribe(4);
        Check.due("on(2)", x.on(2), 0);
        Check.due("on(2), mood", x.count(4), 5);
    }

    private static void keepTellsHowMany() {
        LetterEnds x = Check.posted("p51h10h10t19");
        Check.due("no deed", x.keep(1), 0);
        fill(x, 40);
        Check.due("forty", x.keep(1), 40);
    }

    private static void keepBad() {
        LetterEnds x = Check.posted("p51h10t09");
        Check.dueBounds("keep(k)", x, 0, 2, k -> x.keep(k));
        LetterEnds none = new LetterEnds();
        Check.dueRefused("without letters, keep(3)", none, () -> none.keep(3), Check.BAD);
    }

    private static void keepWithoutLetters() {
        LetterEnds x = new LetterEnds();
        for (int k = 0; k <= 2; k++) {
            int place = k;
            Check.dueRefused("keep(" + k + ")", x, () -> x.keep(place), Check.STATE);
        }
    }

    private static void onAsItWasKept() {
        LetterEnds x = done(new long[9]);
        x.undo(5);
        x.keep(1);
        long[] digests = new long[6];
        for (int n = 5; n >= 0; n--) {
            x.undo(n);
            digests[n] = x.digest();
        }
        otherDeeds(x);
        Check.due("on(1)", x.on(1), 5);
        Check.due("on(1), digest()", x.digest(), digests[5]);
        // its own DEEDS are undone, not those done since
        for (int n = 5; n >= 0; n--) {
            Check.due("undo(" + n + ")", x.undo(n), n == 5 ? 0 : 1);
            Check.due("undo(" + n + "), digest()", x.digest(), digests[n]);
        }
        otherDeeds(x);
        Check.due("on(1) once more", x.on(1), 5);
        Check.due("on(1) once more, digest()", x.digest(), digests[5]);
        Check.due("it goes on", x.carry(0), 9);
        Check.due("its next deed", x.count(3), 6);
        endedAsItWasKept();
    }

    private static void otherDeeds(LetterEnds x) {
        x.day();
        x.carry(2);
        x.weather(1);
        x.bribe(1);
        x.carry(0);
        x.day();
    }

    private static void endedAsItWasKept() {
        LetterEnds x = Check.posted("p51h10h10h10v20");
        x.carry(0);
        x.keep(0);
        x.day();
        x.bribe(3);
        Check.due("on another day it ends at 8", x.carry(0), 8);
        x.day();
        x.on(0);
        Check.dueAsked("it ended at 5", x, x.letter(0, 3), 5);
        Check.due("where he stands", x.count(6), 2);
        Check.due("the day", x.count(2), 0);
    }

    private static void onTellsHowMany() {
        LetterEnds x = Check.posted("p51h10h10t19");
        x.keep(0);
        fill(x, 40);
        x.keep(2);
        Check.due("on(0)", x.on(0), 0);
        Check.due("on(2)", x.on(2), 40);
        Check.due("deeds", x.count(3), 40);
        Check.dueRefused("full again", x, () -> x.day(), Check.FULL);
    }

    private static void onBad() {
        LetterEnds x = Check.posted("p51h10t09");
        x.keep(0);
        x.keep(2);
        Check.dueBounds("on(k)", x, 0, 2, k -> x.on(k));
        LetterEnds none = new LetterEnds();
        Check.dueRefused("without letters, on(3)", none, () -> none.on(3), Check.BAD);
    }

    private static void onOfNothing() {
        LetterEnds x = Check.posted("p51h10t09");
        x.keep(1);
        Check.dueFindings("on(k)", x, Check.NOTHING, k -> x.on(k), 0, 2);
        LetterEnds none = new LetterEnds();
        Check.dueFindings("without letters, on(k)", none, Check.NOTHING, k -> none.on(k), 0, 1, 2);
    }
}
