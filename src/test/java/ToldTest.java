/** Promises 37 to 43: what is told. */
public final class ToldTest {
    public static void main(String[] args) {
        before();
        asked();
        parts();
        count();
        findings();
        digest();
        Check.finish();
    }

    private static void before() {
        LetterEnds x = new LetterEnds();
        Check.due("before, asked()", x.asked(), 0);
        Check.due("before, upper()", x.upper(), 0);
        Check.due("before, lower()", x.lower(), 1);
        Check.due("before, finding()", x.finding(), 0);
        for (int f = 1; f <= 5; f++) {
            Check.due("before, findings(" + f + ")", x.findings(f), 0);
        }
    }

    private static void asked() {
        LetterEnds x = Check.posted(Check.SIX);
        Check.rowOf(x, 0, 4, 6);
        x.lay(0, 0, 5);
        Check.due("behind lay()", x.asked(), 4);
        x.at(0, 1);
        Check.due("behind at()", x.asked(), 6);
        x.mean(0);
        Check.due("behind mean()", x.asked(), 5);
        x.house(0, 0);
        Check.due("behind house()", x.asked(), 10);
        x.letter(0, 2);
        Check.due("behind letter()", x.asked(), 7);
        x.bond(0);
        Check.due("behind bond()", x.asked(), 4);
        x.test(0, 0);
        Check.due("behind test()", x.asked(), 1);
        x.sets(9);
        Check.due("behind sets()", x.asked(), 3);
        x.sure(0);
        Check.due("behind sure()", x.asked(), 63);
        x.duel(0);
        Check.due("behind duel()", x.asked(), 0);
        x.house(2, 0);
        x.row(1, 3);
        x.copy(0, 0, 1, 0, 1);
        x.put(0, 0, 112);
        x.carry(3);
        x.round(1, 1);
        x.plan(0, 9, 1);
        x.meant(0, 0);
        x.kinds(0, 0);
        x.least(0, 1);
        x.ends(0, 1, 1);
        x.count(8);
        x.digest();
        Check.due("calls that tell nothing by asked()", x.asked(), 20);
    }

    private static void parts() {
        LetterEnds x = Check.posted(Check.SIX);
        Check.rowOf(x, 0, 3, 0, 5);
        Check.duePart("mid(0, 5)", x, x.mid(0, 5), 3397, 144);
        x.sure(3);
        x.duel(1);
        Check.due("upper() stays", x.upper(), 3397);
        Check.due("lower() stays", x.lower(), 144);
        x.sets(3);
        Check.due("sets(3), upper()", x.upper(), 2);
        Check.due("sets(3), lower()", x.lower(), 1);
        Check.duePart("mid(0, 5) again", x, x.mid(0, 5), 3397, 144);
        Check.duePart("odds(0, 54, 5)", x, x.odds(0, 54, 5), 0, 1);
    }

    private static void count() {
        LetterEnds x = Check.posted(Check.SIX);
        x.row(1, 1);
        x.row(3, 0);
        x.text(2, 0);
        x.weather(2);
        x.day();
        x.carry(4);
        x.keep(1);
        int[] want = {3, 6, 1, 3, 7, 2, 2, 16, 33, 2, 2, 2, 2, 1};
        for (int what = 0; what < want.length; what++) {
            Check.due("count(" + what + ")", x.count(what), want[what]);
        }
        Check.dueRefused("count(14)", x, () -> x.count(14), Check.BAD);
        Check.dueRefused("count(-1)", x, () -> x.count(-1), Check.BAD);
    }

    private static void findings() {
        LetterEnds x = Check.posted(Check.SIX);
        x.at(0, 0);
        Check.due("NOTHING", x.finding(), 1);
        x.row(0, 1);
        x.at(0, 1);
        x.at(0, -1);
        Check.due("BEYOND", x.finding(), 2);
        x.mark(0, 1);
        Check.due("UNLIKE", x.finding(), 3);
        x.sure(54);
        Check.due("NOUGHT", x.finding(), 4);
        x.row(0, -1);
        x.text(0, -1);
        x.copy(0, 0, 0, 0, -1);
        Check.due("SIZE", x.finding(), 5);
        x.at(0, 0);
        x.carry(9);
        Check.due("the latest stays", x.finding(), 5);
        int[] often = {1, 2, 1, 1, 3};
        for (int f = 1; f <= 5; f++) {
            Check.due("findings(" + f + ")", x.findings(f), often[f - 1]);
        }
        Check.dueRefused("findings(0)", x, () -> x.findings(0), Check.BAD);
        Check.dueRefused("findings(6)", x, () -> x.findings(6), Check.BAD);
        Check.dueRefused("findings(-1)", x, () -> x.findings(-1), Check.BAD);
    }

    private static long mixed(long... values) {
        long h = 17;
        for (long v : values) {
            h = 31 * h + v;
        }
        return h;
    }

    private static void digest() {
        LetterEnds x = new LetterEnds();
        Check.due("new, digest()", x.digest(),
            mixed(0, 0, 0, 0, 0, 0, 0, 0, 0, 0, 0, 0, 0, 0, -1, -1, -1, -1, -1, -1, -1, -1, -1, -1, -1, -1, -1));
        Check.write(x, 1, "p62h04h09t19");
        x.post(1);
        x.text(3, 1);
        x.put(3, 0, 200);
        Check.rowOf(x, 2, -5, 2000000000);
        x.text(0, 0);
        x.carry(0);
        x.keep(1);
        x.bribe(1);
        x.keep(2);
        int told = x.asked();
        Check.due("digest()", x.digest(), mixed(
            2, 1, 0, 2, 9, 2, 1, 1, 17, 1, 0, 1, 3, 2,
            4, 0, 1, 13, 1, 0,
            1, 1, 9, 9, 9,
            -1, 1, 2,
            -1, -1, 2, -5, 2000000000, -1, -1, -1,
            0, 12, 'p', '6', '2', 'h', '0', '4', 'h', '0', '9', 't', '1', '9', -1, 1, -56));
        Check.due("digest(), asked() stays", x.asked(), told);
    }
}
