/** What a POST is, its FAULTS, the KINDS of LETTERS, promises 10 to 14, sentence by sentence. */
public final class PostEdgesTest {
    private static final String HOUSES = "p00h00h00h00h00h00h00";
    private static final String ROAD = "p51h00h00h00h00h00h00";
    private static final int[] NO_BLANKS = {9, 10, 0, 31, 33, 160, 255};

    public static void main(String[] args) {
        itemSentences();
        faultSentences();
        kindSentences();
        callSentences();
        tellingSentences();
        Sentences.finish();
    }

    private static void itemSentences() {
        Sentences.between("A POST (without", "A FAULT is");
        Sentences.holds("A POST (without HOUSES, LETTERS at first) is a TEXT", PostEdgesTest::noPostAtFirst);
        Sentences.holds("blanks (32) ahead, between, behind as many as wanted", PostEdgesTest::blanksAround);
        Sentences.holds("none within items (an item: a letter and all its figures)", PostEdgesTest::blanksWithin);
        Sentences.holds("First p (112)", PostEdgesTest::firstTheP);
        Sentences.holds("his MOOD (0 .. 9)", PostEdgesTest::moods);
        Sentences.holds("the WEATHER (0 rain, 1 dull, 2 sun)", PostEdgesTest::weathers);
        Sentences.holds("one figure each", PostEdgesTest::oneFigureForThePostman);
        Sentences.holds("Then HOUSES (1 to 6; 0, 1, .. along the road, as they come)", PostEdgesTest::oneToSixHouses);
        Sentences.holds("h (104), its BOND (two figures, 00 .. 20)", PostEdgesTest::bonds);
        Sentences.holds("Then LETTERS (1 to 6; 0, 1, .. as they come)", PostEdgesTest::oneToSixLetters);
        Sentences.holds("a letter, the HOUSE that it is to (0 .. 5; there must be such a HOUSE)", PostEdgesTest::homes);
        Sentences.holds("how warm its WORDS are (0 .. 9)", PostEdgesTest::words);
        Sentences.holds("one figure each", PostEdgesTest::oneFigureForALetter);
    }

    private static void faultSentences() {
        Sentences.between("A FAULT is", "KINDS of LETTERS and");
        Sentences.holds("A FAULT is the first place at which it can't go on so", PostEdgesTest::theFirstPlace);
        Sentences.holds("(a letter, a figure that is none such", PostEdgesTest::noneSuch);
        Sentences.holds("a LETTER ahead of all HOUSES", PostEdgesTest::letterAheadOfHouses);
        Sentences.holds("a HOUSE behind a LETTER", PostEdgesTest::houseBehindALetter);
        Sentences.holds("a seventh HOUSE", PostEdgesTest::seventhHouse);
        Sentences.holds("a seventh LETTER: its place", PostEdgesTest::seventhLetter);
        Sentences.holds("two figures above 20: the place of the first of both", PostEdgesTest::bondAbove20);
        Sentences.holds("the TEXT's size, if its end comes too early", PostEdgesTest::endTooEarly);
        Sentences.holds("(also without a LETTER)", PostEdgesTest::endWithoutALetter);
        Sentences.holds("or there are blanks alone", PostEdgesTest::blanksAlone);
    }

    private static void kindSentences() {
        Sentences.between("KINDS of LETTERS and", "```\n\n======== 2");
        Sentences.holds("KINDS of LETTERS and letters: 0 LETTER (l, 108)", () -> dueKind('l', 108, 0, false, false));
        Sentences.holds("1 TELEGRAM (t, 116; a LETTER)", () -> dueKind('t', 116, 1, true, false));
        Sentences.holds("2 BILL (b, 98; a LETTER)", () -> dueKind('b', 98, 2, false, false));
        Sentences.holds("3 LOVE (v, 118; a LETTER)", () -> dueKind('v', 118, 3, false, true));
        Sentences.holds("4 BLACK (k, 107; a TELEGRAM)", () -> dueKind('k', 107, 4, true, false));
        Sentences.holds("5 FRENCH (f, 102; a LOVE)", () -> dueKind('f', 102, 5, false, true));
        Sentences.holds("A LETTER ENDS as warm as its WORDS and his MOOD together by 2 (cut)", PostEdgesTest::letterEnds);
        Sentences.holds("a TELEGRAM as warm as its WORDS", PostEdgesTest::telegramEnds);
        Sentences.holds("a BILL as a LETTER, but 5 at least", PostEdgesTest::billEnds);
        Sentences.holds("a LOVE one as its WORDS and his MOOD together, 9 at most", PostEdgesTest::loveEnds);
        Sentences.holds("a BLACK one as a TELEGRAM, but 5 at least", PostEdgesTest::blackEnds);
        Sentences.holds("a FRENCH one as a LOVE one", PostEdgesTest::frenchEnds);
        Sentences.holds("It TURNS his MOOD by 1 more, if it ENDS at 6 or more", PostEdgesTest::turnsUp);
        Sentences.holds("by 1 less, if at 3 or less", PostEdgesTest::turnsDown);
        Sentences.holds("a FRENCH one not at all", PostEdgesTest::frenchTurnsNothing);
    }

    private static void callSentences() {
        Sentences.under("Promise 10: fault");
        Sentences.holds("A FAULT of a TEXT", PostEdgesTest::faultOfAText);
        Sentences.holds("NONE: there is none", PostEdgesTest::noFault);
        Sentences.holds("BAD", PostEdgesTest::faultBad);
        Sentences.holds("NOTHING", PostEdgesTest::faultOfNothing);
        Sentences.under("Promise 11: post");
        Sentences.holds("A POST by a TEXT", PostEdgesTest::postByAText);
        Sentences.holds("(anew: DAY 0, nothing CARRIED, no DEEDS", PostEdgesTest::postAnew);
        Sentences.holds("kept POSTS go)", PostEdgesTest::keptPostsGo);
        Sentences.holds("how many LETTERS", PostEdgesTest::postTellsHowManyLetters);
        Sentences.holds("BAD", PostEdgesTest::postBad);
        Sentences.holds("NOTHING", PostEdgesTest::postOfNothing);
        Sentences.holds("STATE: a FAULT", PostEdgesTest::postWithAFault);
        Sentences.holds("(STATE behind NOTHING.)", PostEdgesTest::postStateBehindNothing);
    }

    private static void tellingSentences() {
        Sentences.under("Promise 12: house");
        Sentences.holds("Of a HOUSE: 0 its BOND", PostEdgesTest::houseBond);
        Sentences.holds("1 LETTERS that are to it (bits)", PostEdgesTest::houseLetters);
        Sentences.holds("2 how far it is from where he stands, told by asked(): 1", PostEdgesTest::houseFar);
        Sentences.holds("BAD", PostEdgesTest::houseBad);
        Sentences.under("Promise 13: letter");
        Sentences.holds("Of a LETTER: 0 the KIND, 1 the HOUSE, 2 its WORDS", PostEdgesTest::letterAsWritten);
        Sentences.holds("3 as how warm it ENDED (NONE: it was not CARRIED)", PostEdgesTest::letterEnded);
        Sentences.holds("4 as how warm it would END, CARRIED now", PostEdgesTest::letterWouldEnd);
        Sentences.holds("(were it not CARRIED yet), told by asked(): 1", PostEdgesTest::letterWouldEndAgain);
        Sentences.holds("BAD", PostEdgesTest::letterBad);
        Sentences.under("Promise 14: mark");
        Sentences.holds("What a LETTER that IS of a KIND tells", PostEdgesTest::markByKind);
        Sentences.holds("a TELEGRAM (BLACK, too) how much his MOOD is off its WORDS, either way", PostEdgesTest::markTelegram);
        Sentences.holds("a BILL by how much it would END warmer in his MOOD now than a LETTER would", PostEdgesTest::markBill);
        Sentences.holds("a LOVE one (FRENCH, too) the least MOOD by which it ENDS at 9", PostEdgesTest::markLove);
        Sentences.holds("a BLACK one how much is made up to 5 (0: nothing)", PostEdgesTest::markBlack);
        Sentences.holds("a FRENCH one as how warm it would END in a MOOD as far from 9 as his is from 0", PostEdgesTest::markFrench);
        Sentences.holds("BAD: also KIND 0", PostEdgesTest::markBad);
        Sentences.holds("UNLIKE", PostEdgesTest::markUnlike);
    }

    private static LetterEnds written(String signs) {
        LetterEnds x = new LetterEnds();
        Check.write(x, 2, signs);
        return x;
    }

    private static void dueFault(String signs, int want) {
        Check.due("fault of '" + signs + "'", written(signs).fault(2), want);
    }

    /** No FAULT, and a POST by it. */
    private static void dueGood(String signs, int letters) {
        LetterEnds x = written(signs);
        Check.due("fault of '" + signs + "'", x.fault(2), Check.NONE);
        Check.due("post of '" + signs + "'", x.post(2), letters);
    }

    private static String signed(String ahead, int sign, String behind) {
        return ahead + (char) sign + behind;
    }

    private static void noPostAtFirst() {
        LetterEnds x = new LetterEnds();
        Check.due("houses", x.count(0), 0);
        Check.due("letters", x.count(1), 0);
        x.text(0, 9);
        Check.due("a text by itself is none", x.count(1), 0);
    }

    private static void blanksAround() {
        dueGood("p00h00l00", 1);
        dueGood(" p00h00l00", 1);
        dueGood("p00 h00l00", 1);
        dueGood("p00h00 l00", 1);
        dueGood("p00h00l00 ", 1);
        dueGood("p00  h00   h00    l00     t10", 2);
        dueGood(" ".repeat(51) + "p00h00l00", 1);
        dueGood("p00h00l00" + " ".repeat(51), 1);
        dueGood("p00" + " ".repeat(25) + "h00" + " ".repeat(26) + "l00", 1);
        for (int sign : NO_BLANKS) {
            dueFault(signed("", sign, "p00h00l00"), 0);
            dueFault(signed("p00", sign, "h00l00"), 3);
            dueFault(signed("p00h00", sign, "l00"), 6);
            dueFault(signed("p00h00l00", sign, ""), 9);
        }
    }

    private static void blanksWithin() {
        dueFault("p 00h00l00", 1);
        dueFault("p0 0h00l00", 2);
        dueFault("p00h 00l00", 4);
        dueFault("p00h0 0l00", 5);
        dueFault("p00h00l 00", 7);
        dueFault("p00h00l0 0", 8);
        dueFault("p ", 1);
        dueFault("p00h0 ", 5);
        dueFault("p00h00l0 ", 8);
    }

    private static void firstTheP() {
        for (int sign : new int[] {111, 113, 'P', 'h', 'l', '0'}) {
            dueFault(signed("", sign, "00h00l00"), 0);
        }
        dueFault("h00p00l00", 0);
        dueFault("p00p00h00l00", 3);
        dueFault("p00h00p00l00", 6);
        dueFault("p00h00l00p00", 9);
        dueGood(signed("", 112, "00h00l00"), 1);
    }

    private static void moods() {
        for (int mood = 0; mood <= 9; mood++) {
            Check.due("mood " + mood, Check.posted("p" + mood + "1h00l00").count(4), mood);
        }
        for (int sign : new int[] {'0' - 1, '9' + 1, '-', 'a', 176}) {
            dueFault(signed("p", sign, "0h00l00"), 1);
        }
    }

    private static void weathers() {
        for (int weather = 0; weather <= 2; weather++) {
            LetterEnds x = Check.posted("p5" + weather + "h00h00k15");
            Check.due("weather " + weather, x.count(5), weather);
            x.carry(0);
            Check.due("a house on, mood", x.count(4), 4 + weather);
        }
        for (int sign : new int[] {'0' - 1, '3', '9', '9' + 1, 'a'}) {
            dueFault(signed("p0", sign, "h00l00"), 2);
        }
    }

    private static void oneFigureForThePostman() {
        dueFault("p000h00l00", 3);
        dueFault("p0h00l00", 2);
        dueFault("ph00l00", 1);
    }

    private static void oneToSixHouses() {
        dueFault("p00l00", 3);
        dueGood("p00h00l00", 1);
        dueGood(HOUSES + "l50", 1);
        dueFault(HOUSES + "h00l00", 21);
        LetterEnds x = Check.posted("p00h01h02h03h04h05h06l00");
        Check.due("houses", x.count(0), 6);
        for (int h = 0; h < 6; h++) {
            Check.dueAsked("house(" + h + ", 0), as they come", x, x.house(h, 0), h + 1);
            Check.dueAsked("house(" + h + ", 2), along the road", x, x.house(h, 2), h);
        }
    }

    private static void bonds() {
        for (int bond = 0; bond <= 20; bond++) {
            String signs = "p00h" + bond / 10 + bond % 10 + "l00";
            LetterEnds x = Check.posted(signs);
            Check.dueAsked("bond in '" + signs + "'", x, x.house(0, 0), bond);
        }
        dueFault("p00h21l00", 4);
        dueFault("p00h0l00", 5);
        dueFault("p00h000l00", 6);
        dueFault("p00H00l00", 3);
        dueFault("p00i00l00", 3);
        dueFault("p00g00l00", 3);
    }

    private static void oneToSixLetters() {
        dueFault("p00h00", 6);
        dueGood("p00h00l00", 1);
        dueGood("p00h00l00t01b02v03k04f05", 6);
        dueFault("p00h00l00t01b02v03k04f05l06", 24);
        LetterEnds x = Check.posted("p00h00l05t04b03v02k01f00");
        for (int l = 0; l < 6; l++) {
            Check.dueAsked("letter(" + l + ", 2), as they come", x, x.letter(l, 2), 5 - l);
        }
    }

    private static void homes() {
        for (int h = 0; h <= 5; h++) {
            LetterEnds x = Check.posted(HOUSES + "l" + h + "0");
            Check.dueAsked("letter to house " + h, x, x.letter(0, 1), h);
        }
        for (int sign : new int[] {'6', '9', '0' - 1, '9' + 1}) {
            dueFault(signed(HOUSES + "l", sign, "0"), 22);
        }
        for (int houses = 1; houses <= 5; houses++) {
            String road = HOUSES.substring(0, 3 + 3 * houses);
            dueGood(road + "l" + (houses - 1) + "0", 1);
            dueFault(road + "l" + houses + "0", 4 + 3 * houses);
        }
    }

    private static void words() {
        for (int words = 0; words <= 9; words++) {
            LetterEnds x = Check.posted("p00h00l0" + words);
            Check.dueAsked("words " + words, x, x.letter(0, 2), words);
        }
        for (int sign : new int[] {'0' - 1, '9' + 1, 'l', 176}) {
            dueFault(signed("p00h00l0", sign, ""), 8);
        }
    }

    private static void oneFigureForALetter() {
        dueFault("p00h00l000", 9);
        dueFault("p00h00l00t000", 12);
        dueFault("p00h00l0t00", 8);
    }

    private static void theFirstPlace() {
        dueFault("p00h00l00x00y00", 9);
        dueFault("p09h21l99", 2);
        dueFault("pxx", 1);
        dueFault("p00hxxl00", 4);
        dueFault("p00h21x00", 4);
        dueFault("p00h00lxx", 7);
        dueFault("p00h00l1x", 7);
        dueFault("xp00h00l00", 0);
        dueFault("   p00   h00   l00   x", 21);
    }

    private static void noneSuch() {
        for (char sign : "acdegijmnoqrsuwxyzLTBVKFH019".toCharArray()) {
            dueFault(signed("p00h00", sign, "00"), 6);
        }
        dueFault("p00h3x", 5);
        dueFault("p00h3 l00", 5);
        dueFault("p00hx3l00", 4);
        dueFault("p00h00lx0", 7);
        dueFault("p00h00l0x", 8);
        dueFault(signed("p00h00", 'l' + 128, "00"), 6);
        dueFault(signed("p00h00l0", '0' + 128, ""), 8);
    }

    private static void letterAheadOfHouses() {
        for (char sign : "ltbvkf".toCharArray()) {
            dueFault(signed("p00", sign, "00h00"), 3);
            dueFault(signed("p00   ", sign, "00"), 6);
        }
    }

    private static void houseBehindALetter() {
        dueFault("p00h00l00h00", 9);
        dueFault("p00h00l00  h00l00", 11);
        dueFault("p00h00l00h99", 9);
        dueFault(HOUSES + "l00h00", 24);
    }

    private static void seventhHouse() {
        dueFault(HOUSES + "h00", 21);
        dueFault(HOUSES + " h00l00", 22);
        dueFault(HOUSES + "h99", 21);
        dueFault(HOUSES + "h", 21);
        dueFault(HOUSES, 21);
    }

    private static void seventhLetter() {
        String six = "p00h00l00l00l00l00l00l00";
        dueFault(six + "l00", 24);
        dueFault(six + "  f00", 26);
        dueFault(six + "lxx", 24);
        dueFault(six + "l", 24);
        dueFault(six + "h00", 24);
        dueGood(six, 6);
    }

    private static void bondAbove20() {
        dueFault("p00h21l00", 4);
        dueFault("p00h29l00", 4);
        dueFault("p00h30l00", 4);
        dueFault("p00h99l00", 4);
        dueFault("p00h20 h21l00", 8);
        dueGood("p00h20l00", 1);
        dueGood("p00h19l00", 1);
    }

    private static void endTooEarly() {
        dueFault("p", 1);
        dueFault("p0", 2);
        dueFault("p00h", 4);
        dueFault("p00h0", 5);
        dueFault("p00h9", 5);
        dueFault("p00h00l", 7);
        dueFault("p00h00l0", 8);
        dueFault("p00h00l00f", 10);
        dueFault("p00h00l00f0", 11);
        dueFault(" ".repeat(58) + "p0", 60);
    }

    private static void endWithoutALetter() {
        dueFault("p00", 3);
        dueFault("p00  ", 5);
        dueFault("p00h00", 6);
        dueFault("p00h00   ", 9);
        dueFault(HOUSES + " ".repeat(39), 60);
    }

    private static void blanksAlone() {
        dueFault("", 0);
        dueFault(" ", 1);
        dueFault(" ".repeat(60), 60);
    }

    private static void dueKind(char sign, int number, int kind, boolean telegram, boolean love) {
        Check.due("the number of " + sign, sign, number);
        LetterEnds x = Check.posted(signed("p51h00", number, "07"));
        Check.dueAsked("its kind", x, x.letter(0, 0), kind);
        Check.due("telegrams", x.count(9), telegram ? 1 : 0);
        Check.due("love ones", x.count(10), love ? 1 : 0);
        for (int other = 1; other <= 5; other++) {
            boolean is = other == kind || telegram && other == 1 || love && other == 3;
            Check.due("it is of kind " + other, x.mark(0, other) == Check.FINDING ? 0 : 1, is ? 1 : 0);
        }
    }

    /** How a LETTER of this sign ENDS by so warm WORDS in such a MOOD, told and truly. */
    private static void dueEnd(char sign, int words, int mood, int warm) {
        String signs = "p" + mood + "1h00" + sign + "0" + words;
        LetterEnds x = Check.posted(signs);
        Check.due("ends() in '" + signs + "'", x.ends(0, words, mood), warm);
        Check.due("carry() in '" + signs + "'", x.carry(0), warm);
    }

    private static void letterEnds() {
        dueEnd('l', 0, 0, 0);
        dueEnd('l', 0, 1, 0);
        dueEnd('l', 1, 1, 1);
        dueEnd('l', 9, 8, 8);
        dueEnd('l', 9, 9, 9);
        dueEnd('l', 5, 0, 2);
    }

    private static void telegramEnds() {
        dueEnd('t', 0, 9, 0);
        dueEnd('t', 9, 0, 9);
        dueEnd('t', 4, 9, 4);
    }

    private static void billEnds() {
        dueEnd('b', 0, 0, 5);
        dueEnd('b', 9, 0, 5);
        dueEnd('b', 9, 2, 5);
        dueEnd('b', 9, 3, 6);
        dueEnd('b', 9, 9, 9);
    }

    private static void loveEnds() {
        dueEnd('v', 0, 0, 0);
        dueEnd('v', 4, 4, 8);
        dueEnd('v', 4, 5, 9);
        dueEnd('v', 5, 5, 9);
        dueEnd('v', 9, 9, 9);
    }

    private static void blackEnds() {
        dueEnd('k', 0, 9, 5);
        dueEnd('k', 4, 9, 5);
        dueEnd('k', 5, 0, 5);
        dueEnd('k', 6, 0, 6);
        dueEnd('k', 9, 0, 9);
    }

    private static void frenchEnds() {
        dueEnd('f', 0, 0, 0);
        dueEnd('f', 4, 4, 8);
        dueEnd('f', 4, 5, 9);
        dueEnd('f', 5, 5, 9);
        dueEnd('f', 9, 9, 9);
    }

    private static void dueTurn(char sign, int words, int mood, int then) {
        String signs = "p" + mood + "1h00" + sign + "0" + words;
        LetterEnds x = Check.posted(signs);
        x.carry(0);
        Check.due("mood behind '" + signs + "'", x.count(4), then);
    }

    private static void turnsUp() {
        dueTurn('t', 5, 4, 4);
        dueTurn('t', 6, 4, 5);
        dueTurn('k', 6, 4, 5);
        dueTurn('l', 7, 5, 6);
        dueTurn('l', 6, 5, 5);
        dueTurn('b', 8, 4, 5);
        dueTurn('v', 2, 4, 5);
        dueTurn('v', 1, 4, 4);
        dueTurn('t', 9, 9, 9);
    }

    private static void turnsDown() {
        dueTurn('t', 4, 4, 4);
        dueTurn('t', 3, 4, 3);
        dueTurn('l', 3, 4, 3);
        dueTurn('l', 4, 4, 4);
        dueTurn('v', 0, 3, 2);
        dueTurn('v', 1, 3, 3);
        dueTurn('k', 0, 4, 4);
        dueTurn('b', 0, 4, 4);
        dueTurn('t', 0, 0, 0);
    }

    private static void frenchTurnsNothing() {
        dueTurn('f', 9, 4, 4);
        dueTurn('f', 2, 4, 4);
        dueTurn('f', 0, 3, 3);
        dueTurn('f', 0, 1, 1);
    }

    private static void faultOfAText() {
        LetterEnds x = written("p00h00l00x");
        long digest = x.digest();
        Check.due("fault(2)", x.fault(2), 9);
        Check.due("fault(2) again", x.fault(2), 9);
        x.text(0, 60);
        Check.due("of another one", x.fault(0), 60);
        x.text(0, 0);
        Check.due("of an empty one", x.fault(0), 0);
        LetterEnds y = written("p00h00l00x");
        y.fault(2);
        Check.due("it changes nothing", y.digest(), digest);
    }

    private static void noFault() {
        LetterEnds x = written("p00h00l00");
        Check.dueRefused("fault(2)", x, () -> x.fault(2), Check.NONE);
        Check.due("it makes no post", x.count(1), 0);
    }

    private static void faultBad() {
        LetterEnds x = new LetterEnds();
        x.text(0, 1);
        x.text(3, 1);
        Check.dueBounds("fault(t)", x, 0, 3, t -> x.fault(t));
    }

    private static void faultOfNothing() {
        LetterEnds x = written("p00h00l00");
        Check.dueFindings("fault(t)", x, Check.NOTHING, t -> x.fault(t), 0, 1, 3);
    }

    private static void postByAText() {
        LetterEnds x = written("p72h05h11l13f04");
        Check.due("post(2)", x.post(2), 2);
        int[] counts = {2, 2, 0, 0, 7, 2, 0, 0, 16};
        for (int what = 0; what < counts.length; what++) {
            Check.due("count(" + what + ")", x.count(what), counts[what]);
        }
        x.text(2, 0);
        Check.due("it stays, if the text goes", x.count(1), 2);
    }

    private static LetterEnds oldAndNew() {
        LetterEnds x = Check.posted("p52h10h10h10t29t19t00");
        Check.write(x, 1, "p31h04l00");
        x.carry(0);
        x.day();
        x.carry(1);
        x.keep(0);
        x.keep(2);
        return x;
    }

    private static void postAnew() {
        LetterEnds x = oldAndNew();
        Check.due("post(1)", x.post(1), 1);
        Check.due("day", x.count(2), 0);
        Check.due("carried", x.count(7), 0);
        Check.due("deeds", x.count(3), 0);
        Check.due("where he stands", x.count(6), 0);
        Check.due("mood", x.count(4), 3);
        Check.due("weather", x.count(5), 1);
        Check.due("bonds", x.count(8), 4);
        Check.dueAsked("letter(0, 3)", x, x.letter(0, 3), Check.NONE);
        Check.due("undo(0)", x.undo(0), 0);
        Check.due("the old one once more", x.post(0), 3);
        Check.due("its bonds as they were at first", x.count(8), 30);
    }

    private static void keptPostsGo() {
        LetterEnds x = oldAndNew();
        Check.due("kept", x.count(13), 2);
        x.post(1);
        Check.due("kept behind it", x.count(13), 0);
        Check.dueFindings("on(k)", x, Check.NOTHING, k -> x.on(k), 0, 1, 2);
    }

    private static void postTellsHowManyLetters() {
        dueGood("p00h00h00h00k00", 1);
        dueGood("p00h00k00k00", 2);
        dueGood("p00h00k00k00k00k00k00k00", 6);
    }

    private static void postBad() {
        LetterEnds x = new LetterEnds();
        Check.write(x, 0, "p00h00l00");
        Check.write(x, 3, "p00h00l00l00");
        Check.dueBounds("post(t)", x, 0, 3, t -> x.post(t));
    }

    private static void postOfNothing() {
        LetterEnds x = Check.posted("p51h00l00");
        Check.dueFindings("post(t)", x, Check.NOTHING, t -> x.post(t), 1, 2, 3);
    }

    private static void postWithAFault() {
        for (String signs : new String[] {"", "   ", "p51h00h00l55", "p00h00l00h00", "p00h00", "p00h21l00"}) {
            LetterEnds x = oldAndNew();
            Check.write(x, 3, signs);
            Check.dueRefused("post of '" + signs + "'", x, () -> x.post(3), Check.STATE);
            Check.due("the old one goes on", x.carry(2), 0);
            Check.due("kept", x.count(13), 2);
        }
    }

    private static void postStateBehindNothing() {
        LetterEnds x = new LetterEnds();
        Check.dueFinding("post(0): missing", x, () -> x.post(0), Check.NOTHING);
        x.text(0, 0);
        Check.dueRefused("post(0): empty", x, () -> x.post(0), Check.STATE);
    }

    private static void houseBond() {
        LetterEnds x = Check.posted("p51h00h20h07t19t09t24");
        Check.dueAsked("house(0, 0)", x, x.house(0, 0), 0);
        Check.dueAsked("house(1, 0)", x, x.house(1, 0), 20);
        x.carry(2);
        Check.dueAsked("a letter behind, house(2, 0)", x, x.house(2, 0), 6);
    }

    private static void houseLetters() {
        LetterEnds x = Check.posted(ROAD + "l00t50b00v50k00f50");
        Check.dueAsked("house(0, 1)", x, x.house(0, 1), 21);
        Check.dueAsked("house(5, 1)", x, x.house(5, 1), 42);
        Check.dueAsked("house(3, 1): none", x, x.house(3, 1), 0);
        x.carry(0);
        Check.dueAsked("carried ones, too", x, x.house(0, 1), 21);
    }

    private static void houseFar() {
        LetterEnds x = Check.posted(ROAD + "l30");
        int[] far = {3, 2, 1, 0, 1, 2};
        x.carry(0);
        for (int h = 0; h < 6; h++) {
            Check.dueAsked("from house 3, house(" + h + ", 2)", x, x.house(h, 2), far[h]);
        }
        x.day();
        Check.dueAsked("from house 0, house(5, 2)", x, x.house(5, 2), 5);
    }

    private static void houseBad() {
        LetterEnds x = Check.posted(Check.SIX);
        Check.dueBounds("house(h, 0)", x, 0, 2, h -> x.house(h, 0));
        LetterEnds y = Check.posted(Check.SIX);
        Check.dueBounds("house(0, what)", y, 0, 2, what -> y.house(0, what));
        LetterEnds none = new LetterEnds();
        Check.dueRefused("without houses, house(0, 0)", none, () -> none.house(0, 0), Check.BAD);
    }

    private static void letterAsWritten() {
        LetterEnds x = Check.posted(ROAD + "l09t18b27v36k45f54");
        for (int l = 0; l < 6; l++) {
            Check.dueAsked("letter(" + l + ", 0)", x, x.letter(l, 0), l);
            Check.dueAsked("letter(" + l + ", 1)", x, x.letter(l, 1), l);
            Check.dueAsked("letter(" + l + ", 2)", x, x.letter(l, 2), 9 - l);
        }
    }

    private static void letterEnded() {
        LetterEnds x = Check.posted("p51h00t00t09");
        Check.dueAsked("not carried", x, x.letter(0, 3), Check.NONE);
        x.carry(0);
        Check.dueAsked("ended at 0", x, x.letter(0, 3), 0);
        Check.dueAsked("the other one", x, x.letter(1, 3), Check.NONE);
        x.carry(1);
        Check.dueAsked("ended at 9", x, x.letter(1, 3), 9);
        x.undo(1);
        Check.dueAsked("undone", x, x.letter(1, 3), Check.NONE);
        x.day();
        Check.dueAsked("another day", x, x.letter(0, 3), Check.NONE);
    }

    private static void letterWouldEnd() {
        LetterEnds x = Check.posted("p32h00h00h00h00h00h00v50k25");
        Check.dueAsked("five houses off in sun", x, x.letter(0, 4), 8);
        x.carry(1);
        Check.dueAsked("three houses off, mood 5", x, x.letter(0, 4), 8);
        x.weather(0);
        Check.dueAsked("in rain", x, x.letter(0, 4), 2);
        x.weather(1);
        Check.dueAsked("when it is dull", x, x.letter(0, 4), 5);
        Check.due("it is not carried", x.count(7), 2);
    }

    private static void letterWouldEndAgain() {
        LetterEnds x = Check.posted("p50h00h00v14");
        Check.dueAsked("letter(0, 4)", x, x.letter(0, 4), 8);
        x.carry(0);
        Check.dueAsked("from its own house, mood 5", x, x.letter(0, 4), 9);
        Check.dueAsked("letter(0, 3) stays", x, x.letter(0, 3), 8);
    }

    private static void letterBad() {
        LetterEnds x = Check.posted(Check.SIX);
        Check.dueBounds("letter(l, 0)", x, 0, 5, l -> x.letter(l, 0));
        LetterEnds y = Check.posted(Check.SIX);
        Check.dueBounds("letter(0, what)", y, 0, 4, what -> y.letter(0, what));
        LetterEnds one = Check.posted("p00h00l00");
        Check.dueRefused("of one letter, letter(1, 0)", one, () -> one.letter(1, 0), Check.BAD);
    }

    private static void markByKind() {
        LetterEnds x = Check.posted("p51h00k03f02");
        long digest = x.digest();
        Check.due("a black one as a telegram", x.mark(0, 1), 2);
        Check.due("a black one as itself", x.mark(0, 4), 2);
        Check.due("a French one as a love one", x.mark(1, 3), 7);
        Check.due("a French one as itself", x.mark(1, 5), 6);
        Check.due("it changes nothing", x.digest(), digest);
    }

    private static void markTelegram() {
        Check.due("9 above", Check.posted("p91h00t00").mark(0, 1), 9);
        Check.due("9 below", Check.posted("p01h00t09").mark(0, 1), 9);
        Check.due("not off", Check.posted("p41h00t04").mark(0, 1), 0);
        Check.due("a black one is by its words", Check.posted("p51h00k00").mark(0, 1), 5);
        LetterEnds x = Check.posted("p41h00t04");
        x.bribe(2);
        Check.due("his mood now", x.mark(0, 1), 2);
    }

    private static void markBill() {
        Check.due("0 made 5", Check.posted("p01h00b00").mark(0, 2), 5);
        Check.due("4 made 5", Check.posted("p01h00b09").mark(0, 2), 1);
        Check.due("5 by itself", Check.posted("p11h00b09").mark(0, 2), 0);
        Check.due("9 by itself", Check.posted("p91h00b09").mark(0, 2), 0);
        Check.due("in his mood now, no walk ahead", Check.posted("p90h00h00h00b20").mark(0, 2), 1);
    }

    private static void markLove() {
        Check.due("words 0", Check.posted("p51h00v00").mark(0, 3), 9);
        Check.due("words 9", Check.posted("p51h00v09").mark(0, 3), 0);
        Check.due("a French one", Check.posted("p51h00f04").mark(0, 3), 5);
    }

    private static void markBlack() {
        Check.due("words 0", Check.posted("p51h00k00").mark(0, 4), 5);
        Check.due("words 4", Check.posted("p51h00k04").mark(0, 4), 1);
        Check.due("words 5", Check.posted("p51h00k05").mark(0, 4), 0);
        Check.due("words 9", Check.posted("p51h00k09").mark(0, 4), 0);
    }

    private static void markFrench() {
        Check.due("mood 0 is 9", Check.posted("p01h00f00").mark(0, 5), 9);
        Check.due("mood 9 is 0", Check.posted("p91h00f00").mark(0, 5), 0);
        Check.due("mood 4 is 5", Check.posted("p41h00f01").mark(0, 5), 6);
        Check.due("9 at most", Check.posted("p01h00f09").mark(0, 5), 9);
    }

    private static void markBad() {
        LetterEnds x = Check.posted("p51h00k00l00f00");
        Check.dueBounds("mark(0, kind)", x, 1, 5, kind -> x.mark(0, kind));
        LetterEnds y = Check.posted("p51h00k00l00k00");
        Check.dueBounds("mark(l, 4)", y, 0, 2, l -> y.mark(l, 4));
        Check.dueRefused("mark(1, 0) of a letter", y, () -> y.mark(1, 0), Check.BAD);
    }

    private static void markUnlike() {
        LetterEnds x = Check.posted(Check.SIX);
        Check.dueFindings("mark(0, kind)", x, Check.UNLIKE, kind -> x.mark(0, kind), 1, 2, 3, 4, 5);
        Check.dueFindings("mark(1, kind)", x, Check.UNLIKE, kind -> x.mark(1, kind), 2, 3, 4, 5);
        Check.dueFindings("mark(2, kind)", x, Check.UNLIKE, kind -> x.mark(2, kind), 1, 3, 4, 5);
        LetterEnds y = Check.posted(Check.SIX);
        Check.dueFindings("mark(3, kind)", y, Check.UNLIKE, kind -> y.mark(3, kind), 1, 2, 4, 5);
        Check.dueFindings("mark(4, kind)", y, Check.UNLIKE, kind -> y.mark(4, kind), 2, 3, 5);
        Check.dueFindings("mark(5, kind)", y, Check.UNLIKE, kind -> y.mark(5, kind), 1, 2, 4);
    }
}
