/** What is told, promises 37 to 43, and how long an object is used, sentence by sentence. */
public final class ToldEdgesTest {
    private static final String SIX = Check.SIX;
    private static final int CALLS = 512;

    public static void main(String[] args) {
        Sentences.between("An object is used", "## The public face");
        Sentences.holds("An object is used for at most 512 calls after it has been made; what later calls answer is free.",
            ToldEdgesTest::everyCallUpToTheLast);
        askedSentences();
        partSentences();
        countSentences();
        findingSentences();
        digestSentences();
        Sentences.finish();
    }

    private static void askedSentences() {
        Sentences.under("Promise 37: asked");
        Sentences.holds("What the latest lay(), at(), mean(), house(), letter(), bond(), test(), sets(), sure(), duel()",
            ToldEdgesTest::askedOfEach);
        Sentences.holds("that was not refused", ToldEdgesTest::askedNotOfRefused);
        Sentences.holds("(nor NONE) told", ToldEdgesTest::askedNotOfNone);
        Sentences.holds("0 before", () -> Check.due("asked()", new LetterEnds().asked(), 0));
    }

    private static void partSentences() {
        Sentences.under("Promise 38: upper");
        Sentences.holds("The upper number that was told last", ToldEdgesTest::latestUpper);
        Sentences.holds("0 before", () -> Check.due("upper()", new LetterEnds().upper(), 0));
        Sentences.under("Promise 39: lower");
        Sentences.holds("Its lower number", ToldEdgesTest::latestLower);
        Sentences.holds("1 before", () -> Check.due("lower()", new LetterEnds().lower(), 1));
    }

    private static void countSentences() {
        Sentences.under("Promise 40: count");
        Sentences.holds("0 HOUSES", () -> dueCount(0, 1, 6));
        Sentences.holds("1 LETTERS", () -> dueCount(1, 1, 6));
        Sentences.holds("2 the DAY", ToldEdgesTest::countDays);
        Sentences.holds("3 DEEDS", ToldEdgesTest::countDeeds);
        Sentences.holds("4 his MOOD", () -> dueCount(4, 0, 9));
        Sentences.holds("5 the WEATHER", () -> dueCount(5, 0, 2));
        Sentences.holds("6 where he stands", ToldEdgesTest::countStand);
        Sentences.holds("7 LETTERS that were CARRIED (bits)", ToldEdgesTest::countCarried);
        Sentences.holds("8 all BONDS", () -> dueCount(8, 0, 120));
        Sentences.holds("9 TELEGRAMS (BLACK ones, too)", ToldEdgesTest::countTelegrams);
        Sentences.holds("10 LOVE ones (FRENCH ones, too)", ToldEdgesTest::countLove);
        Sentences.holds("11 ROWS, 12 TEXTS that are there", ToldEdgesTest::countRowsAndTexts);
        Sentences.holds("13 kept POSTS", ToldEdgesTest::countKept);
        Sentences.holds("BAD", ToldEdgesTest::countBad);
    }

    private static void findingSentences() {
        Sentences.under("Promise 41: finding");
        Sentences.holds("The latest FINDING", ToldEdgesTest::latestFinding);
        Sentences.holds("(0 before any)", ToldEdgesTest::noFindingBefore);
        Sentences.under("Promise 42: findings");
        Sentences.holds("How often a FINDING (1 .. 5) was answered", ToldEdgesTest::howOften);
        Sentences.holds("BAD", ToldEdgesTest::findingsBad);
    }

    private static void digestSentences() {
        Sentences.under("Promise 43: digest");
        Sentences.holds("h = 17; then h = 31 h + v for each v", ToldEdgesTest::digestOfANewObject);
        Sentences.holds("(of a call that tells by asked(): what it tells, not the 1 that it answers; asked() stays)",
            ToldEdgesTest::digestOfWhatIsTold);
        Sentences.holds("count() 0 to 13", ToldEdgesTest::digestOfCounts);
        Sentences.holds("of each HOUSE house() 0 to 2", ToldEdgesTest::digestOfHouses);
        Sentences.holds("of each LETTER letter() 0 to 4", ToldEdgesTest::digestOfLetters);
        Sentences.holds("of each kept POST how many DEEDS (-1: missing)", ToldEdgesTest::digestOfKeptPosts);
        Sentences.holds("of each ROW its size (-1: missing) and places", ToldEdgesTest::digestOfRows);
        Sentences.holds("of each TEXT likewise", ToldEdgesTest::digestOfTexts);
    }

    private static void everyCallUpToTheLast() {
        LetterEnds x = new LetterEnds();
        x.row(0, 1);
        for (int calls = 1; calls < CALLS - 1; calls++) {
            Check.due("lay() as call " + (calls + 1), x.lay(0, 0, calls), 1);
        }
        Check.due("asked() as call 512", x.asked(), CALLS - 3);
    }

    private static void askedOfEach() {
        LetterEnds x = Check.posted(SIX);
        Check.rowOf(x, 0, 4, 6);
        Check.dueAsked("lay()", x, x.lay(0, 0, 5), 4);
        Check.dueAsked("at()", x, x.at(0, 1), 6);
        Check.dueAsked("mean()", x, x.mean(0), 5);
        Check.dueAsked("house()", x, x.house(2, 0), 20);
        Check.dueAsked("letter()", x, x.letter(0, 2), 7);
        Check.due("bond()", x.bond(0), 3);
        Check.due("bond(), asked()", x.asked(), 4);
        Check.due("test()", x.test(0, 0), 0);
        Check.due("test(), asked()", x.asked(), 1);
        Check.dueAsked("sets()", x, x.sets(23), 63);
        Check.due("sure()", x.sure(0), 0);
        Check.due("sure(), asked()", x.asked(), 63);
        Check.dueAsked("duel()", x, x.duel(0), 0);
        x.house(2, 0);
        othersTellNothing(x);
        Check.due("behind calls that tell nothing by it", x.asked(), 20);
    }

    private static void othersTellNothing(LetterEnds x) {
        x.row(1, 3);
        x.copy(0, 0, 1, 0, 1);
        x.text(1, 1);
        x.put(1, 0, 5);
        x.fault(1);
        x.mark(1, 1);
        x.carry(3);
        x.bribe(1);
        x.weather(1);
        x.day();
        x.keep(0);
        x.undo(0);
        x.on(0);
        x.ends(0, 1, 1);
        x.least(0, 1);
        x.round(1, 1);
        x.plan(0, 9, 1);
        x.rest(0, 1, 1);
        x.meant(0, 0);
        x.kinds(0, 0);
        x.odds(1, 0, 1);
        x.mid(1, 1);
        x.lots(1, 1);
        x.upper();
        x.lower();
        x.count(8);
        x.finding();
        x.findings(1);
        x.digest();
        x.tear(1);
        x.post(0);
    }

    private static void askedNotOfRefused() {
        LetterEnds x = Check.posted(SIX);
        x.row(0, 1);
        x.house(2, 0);
        int[] answers = {x.lay(0, 1, 1), x.at(6, 0), x.mean(5), x.house(3, 0), x.letter(6, 0), x.bond(6), x.test(0, 0),
            x.sets(55), x.sure(54), x.duel(4)};
        for (int answer : answers) {
            Check.due("it is refused", answer == Check.BAD || answer == Check.FINDING ? 1 : 0, 1);
        }
        Check.due("asked()", x.asked(), 20);
    }

    private static void askedNotOfNone() {
        LetterEnds x = Check.posted(SIX);
        Check.rowOf(x, 0, 9, 4);
        x.house(2, 0);
        Check.due("test(2, 0)", x.test(2, 0), Check.NONE);
        Check.due("asked()", x.asked(), 20);
        Check.dueAsked("NONE as what is told: no set", x, x.sets(54), Check.NONE);
        x.house(2, 0);
        Check.dueAsked("NONE as what is told: not carried", x, x.letter(0, 3), Check.NONE);
    }

    private static LetterEnds weighing() {
        LetterEnds x = Check.posted("p51h00f00f09");
        Check.rowOf(x, 0, 0);
        return x;
    }

    private static void latestUpper() {
        LetterEnds x = weighing();
        x.mid(0, 7);
        Check.due("a mean", x.upper(), 67);
        x.odds(0, 6, 5);
        Check.due("a chance", x.upper(), 5);
        x.sets(0);
        Check.due("sets", x.upper(), 2);
        x.sets(1);
        Check.due("no sets", x.upper(), 0);
        x.mid(0, 7);
        x.sure(9);
        x.duel(1);
        x.mid(0, 13);
        x.odds(1, 0, 0);
        x.sets(55);
        Check.due("none told since", x.upper(), 67);
    }

    private static void latestLower() {
        LetterEnds x = weighing();
        x.mid(0, 7);
        Check.due("a mean", x.lower(), 12);
        x.odds(0, 6, 4);
        Check.due("a chance", x.lower(), 3);
        x.sets(0);
        Check.due("sets", x.lower(), 1);
        x.odds(0, 6, 4);
        x.odds(0, 7, 4);
        Check.due("no chance", x.lower(), 1);
        x.mid(0, 7);
        x.mean(0);
        x.odds(0, 55, 4);
        Check.due("none told since", x.lower(), 12);
    }

    /** In a POST that has the least of all, one that has the most, and 0 in a new object. */
    private static void dueCount(int what, int least, int most) {
        Check.due("new, count(" + what + ")", new LetterEnds().count(what), 0);
        Check.due("least, count(" + what + ")", Check.posted("p00h00k00").count(what), least);
        Check.due("most, count(" + what + ")", Check.posted("p92h20h20h20h20h20h20f00f10f20f30f40f50").count(what), most);
    }

    private static void countDays() {
        LetterEnds x = Check.posted("p51h00t05");
        for (int days = 0; days < 40; days++) {
            Check.due("day", x.count(2), days);
            x.day();
        }
        Check.due("the last day", x.count(2), 40);
        x.day();
        Check.due("none behind it", x.count(2), 40);
    }

    private static void countDeeds() {
        LetterEnds x = Check.posted("p51h00t05");
        Check.due("deeds", x.count(3), 0);
        x.lots(20, 9);
        x.lots(20, 9);
        Check.due("deeds", x.count(3), 40);
        x.undo(3);
        Check.due("deeds", x.count(3), 3);
    }

    private static void countStand() {
        LetterEnds x = Check.posted("p51h00h00h00h00h00h00t50t00");
        Check.due("at first", x.count(6), 0);
        x.carry(0);
        Check.due("at the last house", x.count(6), 5);
        x.carry(1);
        Check.due("back", x.count(6), 0);
    }

    private static void countCarried() {
        LetterEnds x = Check.posted(SIX);
        Check.due("none", x.count(7), 0);
        int carried = 0;
        for (int l = 5; l >= 0; l--) {
            x.carry(l);
            carried |= 1 << l;
            Check.due("letter " + l + ", too", x.count(7), carried);
        }
        Check.due("all", x.count(7), 63);
    }

    private static void countTelegrams() {
        Check.due("none", Check.posted("p00h00l00b00v00f00").count(9), 0);
        Check.due("one", Check.posted("p00h00l00t00v00f00").count(9), 1);
        Check.due("a black one", Check.posted("p00h00l00k00v00f00").count(9), 1);
        Check.due("six", Check.posted("p00h00t00k00t00k00t00k00").count(9), 6);
    }

    private static void countLove() {
        Check.due("none", Check.posted("p00h00l00b00t00k00").count(10), 0);
        Check.due("one", Check.posted("p00h00l00v00t00k00").count(10), 1);
        Check.due("a French one", Check.posted("p00h00l00f00t00k00").count(10), 1);
        Check.due("six", Check.posted("p00h00v00f00v00f00v00f00").count(10), 6);
    }

    private static void countRowsAndTexts() {
        LetterEnds x = new LetterEnds();
        for (int r = 0; r < 6; r++) {
            Check.due("rows", x.count(11), r);
            x.row(r, 0);
        }
        x.row(5, 40);
        Check.due("rows", x.count(11), 6);
        Check.due("no text", x.count(12), 0);
        for (int t = 0; t < 4; t++) {
            x.text(t, 0);
        }
        Check.due("texts", x.count(12), 4);
        x.tear(0);
        Check.due("one is torn", x.count(11), 5);
        Check.due("texts", x.count(12), 4);
    }

    private static void countKept() {
        LetterEnds x = Check.posted(SIX);
        Check.due("none", x.count(13), 0);
        for (int k = 0; k < 3; k++) {
            x.keep(k);
            x.keep(k);
            Check.due("kept", x.count(13), k + 1);
        }
        x.on(1);
        Check.due("gone on from, it is still kept", x.count(13), 3);
        x.undo(0);
        Check.due("undone, they are still kept", x.count(13), 3);
    }

    private static void countBad() {
        LetterEnds x = Check.posted(SIX);
        Check.dueBounds("count(what)", x, 0, 13, what -> x.count(what));
    }

    private static void latestFinding() {
        LetterEnds x = Check.posted(SIX);
        x.row(0, 0);
        x.mean(0);
        Check.due("NOUGHT", x.finding(), 4);
        x.tear(5);
        Check.due("NOTHING", x.finding(), 1);
        x.row(0, -1);
        Check.due("SIZE", x.finding(), 5);
        x.at(0, 0);
        Check.due("BEYOND", x.finding(), 2);
        x.mark(0, 5);
        Check.due("UNLIKE", x.finding(), 3);
        x.carry(0);
        x.carry(0);
        x.carry(6);
        x.least(1, 9);
        Check.due("what is no finding leaves it", x.finding(), 3);
    }

    private static void noFindingBefore() {
        LetterEnds x = new LetterEnds();
        Check.due("new", x.finding(), 0);
        x.row(6, 0);
        x.day();
        Check.due("behind BAD, STATE", x.finding(), 0);
    }

    private static void howOften() {
        LetterEnds x = Check.posted(SIX);
        x.row(0, 0);
        for (int i = 0; i < 5; i++) {
            x.mean(0);
        }
        for (int i = 0; i < 4; i++) {
            x.row(0, -1);
        }
        for (int i = 0; i < 3; i++) {
            x.mark(0, 5);
        }
        x.at(0, 0);
        x.put(1, 0, 0);
        x.put(1, 0, 0);
        int[] often = {2, 1, 3, 5, 4};
        for (int f = 1; f <= 5; f++) {
            Check.due("findings(" + f + ")", x.findings(f), often[f - 1]);
        }
    }

    private static void findingsBad() {
        LetterEnds x = Check.posted(SIX);
        Check.dueBounds("findings(f)", x, 1, 5, f -> x.findings(f));
    }

    private static long mixed(long h, long... values) {
        long then = h;
        for (long v : values) {
            then = 31 * then + v;
        }
        return then;
    }

    private static long counts(LetterEnds x) {
        long h = 17;
        for (int what = 0; what <= 13; what++) {
            h = mixed(h, x.count(what));
        }
        return h;
    }

    /** Told one by one; kept POSTS, ROWS and TEXTS follow as they are given. */
    private static long told(LetterEnds x, long... behind) {
        long h = counts(x);
        for (int i = 0; i < x.count(0) * 3; i++) {
            x.house(i / 3, i % 3);
            h = mixed(h, x.asked());
        }
        for (int i = 0; i < x.count(1) * 5; i++) {
            x.letter(i / 5, i % 5);
            h = mixed(h, x.asked());
        }
        return mixed(h, behind);
    }

    private static void digestOfANewObject() {
        long want = 17;
        for (int i = 0; i < 14; i++) {
            want *= 31;
        }
        for (int i = 0; i < 3 + 6 + 4; i++) {
            want = 31 * want - 1;
        }
        LetterEnds x = new LetterEnds();
        Check.due("new, digest()", x.digest(), want);
        Check.due("once more", x.digest(), want);
    }

    private static void digestOfWhatIsTold() {
        LetterEnds x = Check.posted("p51h07t03");
        x.house(0, 0);
        x.mid(0, 1);
        Check.due("digest()", x.digest(),
            mixed(17, 1, 1, 0, 0, 5, 1, 0, 0, 7, 1, 0, 0, 1, 0, 7, 1, 0, 1, 0, 3, -9, 3, -1, -1, -1, -1, -1, -1, -1, -1, -1,
                9, 'p', '5', '1', 'h', '0', '7', 't', '0', '3', -1, -1, -1));
        Check.due("asked() stays", x.asked(), 7);
        Check.due("finding() stays", x.finding(), 1);
    }

    private static LetterEnds posted(String signs) {
        LetterEnds x = Check.posted(signs);
        x.text(0, 0);
        return x;
    }

    private static void digestOfCounts() {
        LetterEnds x = posted(SIX);
        x.carry(5);
        x.weather(1);
        x.bribe(1);
        Check.due("digest()", x.digest(), told(x, -1, -1, -1, -1, -1, -1, -1, -1, -1, 0, -1, -1, -1));
        x.day();
        Check.due("a day later", x.digest(), told(x, -1, -1, -1, -1, -1, -1, -1, -1, -1, 0, -1, -1, -1));
    }

    private static void digestOfHouses() {
        LetterEnds x = posted("p51h01h02h03h04h05h06t50");
        x.carry(0);
        long want = mixed(counts(x), 1, 0, 5, 2, 0, 4, 3, 0, 3, 4, 0, 2, 5, 0, 1, 1, 1, 0);
        want = mixed(want, 1, 5, 0, 0, 0);
        Check.due("digest()", x.digest(), mixed(want, -1, -1, -1, -1, -1, -1, -1, -1, -1, 0, -1, -1, -1));
    }

    private static void digestOfLetters() {
        LetterEnds x = posted("p51h09l01t02b03v04k05f06");
        x.carry(1);
        long want = mixed(counts(x), 6, 63, 0);
        want = mixed(want, 0, 0, 1, -9, 2, 1, 0, 2, 2, 2, 2, 0, 3, -9, 5, 3, 0, 4, -9, 8, 4, 0, 5, -9, 5, 5, 0, 6, -9, 9);
        Check.due("digest()", x.digest(), mixed(want, -1, -1, -1, -1, -1, -1, -1, -1, -1, 0, -1, -1, -1));
    }

    private static void digestOfKeptPosts() {
        LetterEnds x = posted("p51h09t05");
        x.keep(2);
        x.day();
        x.day();
        x.keep(0);
        x.undo(1);
        Check.due("digest()", x.digest(), told(x, 2, -1, 0, -1, -1, -1, -1, -1, -1, 0, -1, -1, -1));
    }

    private static void digestOfRows() {
        LetterEnds x = new LetterEnds();
        Check.rowOf(x, 0, Check.LEAST, Check.MOST);
        x.row(2, 0);
        Check.rowOf(x, 5, -1);
        x.row(4, 3);
        x.tear(4);
        Check.due("digest()", x.digest(),
            told(x, -1, -1, -1, 2, Check.LEAST, Check.MOST, -1, 0, -1, -1, 1, -1, -1, -1, -1, -1));
    }

    private static void digestOfTexts() {
        LetterEnds x = new LetterEnds();
        x.text(0, 2);
        x.put(0, 0, 255);
        x.text(1, 0);
        x.text(3, 1);
        x.put(3, 0, 127);
        Check.due("digest()", x.digest(), told(x, -1, -1, -1, -1, -1, -1, -1, -1, -1, 2, -1, 32, 0, -1, 1, 127));
    }
}
