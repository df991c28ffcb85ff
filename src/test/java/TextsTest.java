/** Promises 8 to 11: texts, their faults, posts by them. */
public final class TextsTest {
    private static final String HOUSES = "p00h00h00h00h00h00h00";

    public static void main(String[] args) {
        text();
        put();
        faultless();
        faultsOfThePostman();
        faultsOfHouses();
        faultsOfLetters();
        faultsOfTheEnd();
        faultRefused();
        post();
        Check.finish();
    }

    private static void text() {
        LetterEnds x = new LetterEnds();
        Check.due("text(3, 60)", x.text(3, 60), 60);
        Check.due("its last is a blank", x.put(3, 59, 1), 1032);
        Check.due("text(3, 60) anew", x.text(3, 60), 60);
        Check.due("its last is a blank again", x.put(3, 59, 1), 1032);
        Check.due("text(0, 0)", x.text(0, 0), 0);
        Check.due("two texts", x.count(12), 2);
        Check.dueRefused("text(4, 1)", x, () -> x.text(4, 1), Check.BAD);
        Check.dueRefused("text(-1, -1)", x, () -> x.text(-1, -1), Check.BAD);
        Check.dueRefused("text(0, 61)", x, () -> x.text(0, 61), Check.BAD);
        Check.dueFinding("text(0, -1)", x, () -> x.text(0, -1), Check.SIZE);
    }

    private static void put() {
        LetterEnds x = new LetterEnds();
        x.text(1, 2);
        Check.due("put(1, 0, 200)", x.put(1, 0, 200), 1032);
        Check.due("put(1, 0, -129)", x.put(1, 0, -129), 1000 - 56);
        Check.due("put(1, 0, 128)", x.put(1, 0, 128), 1127);
        Check.due("put(1, 0, 0)", x.put(1, 0, 0), 1000 - 128);
        Check.dueFinding("put(1, 2, 1)", x, () -> x.put(1, 2, 1), Check.BEYOND);
        Check.dueFinding("put(1, -1, 1)", x, () -> x.put(1, -1, 1), Check.BEYOND);
        Check.dueFinding("put(0, 0, 1)", x, () -> x.put(0, 0, 1), Check.NOTHING);
        Check.dueRefused("put(4, 0, 1)", x, () -> x.put(4, 0, 1), Check.BAD);
        Check.dueRefused("put(-1, 0, 1)", x, () -> x.put(-1, 0, 1), Check.BAD);
    }

    private static void dueFault(String signs, int want) {
        LetterEnds x = new LetterEnds();
        Check.write(x, 2, signs);
        long digest = x.digest();
        Check.due("fault of '" + signs + "'", x.fault(2), want);
        Check.due("fault of '" + signs + "', digest()", x.digest(), digest);
        if (want != Check.NONE) {
            Check.dueRefused("post of '" + signs + "'", x, () -> x.post(2), Check.STATE);
        }
    }

    private static void faultless() {
        dueFault(Check.SIX, Check.NONE);
        dueFault("p00h00l00", Check.NONE);
        dueFault("   p92   h20  l09   ", Check.NONE);
        dueFault(HOUSES + "l09t19b29v39k49f59", Check.NONE);
    }

    private static void faultsOfThePostman() {
        dueFault("h00l00", 0);
        dueFault("  x00", 2);
        dueFault("P00h00l00", 0);
        dueFault("pa0h00l00", 1);
        dueFault("p0ah00l00", 2);
        dueFault("p03h00l00", 2);
        dueFault("p 00h00l00", 1);
        dueFault("p0 0h00l00", 2);
        dueFault("p00p00h00l00", 3);
        dueFault("p000h00l00", 3);
        dueFault("p00\u00e9", 3);
    }

    private static void faultsOfHouses() {
        dueFault("p00h21l00", 4);
        dueFault("p00h30l00", 4);
        dueFault("p00h99l00", 4);
        dueFault("p00h20l00", Check.NONE);
        dueFault("p00ha0l00", 4);
        dueFault("p00h0al00", 5);
        dueFault("p00h3al00", 5);
        dueFault("p00h 00l00", 4);
        dueFault("p00h0 0l00", 5);
        dueFault("p00h00l00h00", 9);
        dueFault(HOUSES + " h00l00", 22);
        dueFault(HOUSES + "h99l00", 21);
    }

    private static void faultsOfLetters() {
        dueFault("p00l00h00", 3);
        dueFault("p00 l00", 4);
        dueFault("p00h00l10", 7);
        dueFault("p00h00l60", 7);
        dueFault("p00h00h00l10l20", 13);
        dueFault("p00h00l0a", 8);
        dueFault("p00h00la0", 7);
        dueFault("p00h00l 00", 7);
        dueFault("p00h00l0 0", 8);
        dueFault("p00h00x00", 6);
        dueFault("p00h00l00l00l00l00l00l00", Check.NONE);
        dueFault("p00h00l00l00l00l00l00l00l00", 24);
        dueFault("p00h00l00l00l00l00l00l00lxx", 24);
        dueFault("p00h00l00l00l00l00l00l00h00", 24);
        dueFault("p00h00l00 0", 10);
    }

    private static void faultsOfTheEnd() {
        dueFault("", 0);
        dueFault("    ", 4);
        dueFault("p", 1);
        dueFault("p0", 2);
        dueFault("p00", 3);
        dueFault("p00  ", 5);
        dueFault("p00h", 4);
        dueFault("p00h1", 5);
        dueFault("p00h3", 5);
        dueFault("p00h10", 6);
        dueFault("p00h10  ", 8);
        dueFault("p00h10l", 7);
        dueFault("p00h10l0", 8);
        dueFault("p00h10l00v", 10);
    }

    private static void faultRefused() {
        LetterEnds x = new LetterEnds();
        Check.dueFinding("fault(0)", x, () -> x.fault(0), Check.NOTHING);
        Check.dueRefused("fault(4)", x, () -> x.fault(4), Check.BAD);
        Check.dueRefused("fault(-1)", x, () -> x.fault(-1), Check.BAD);
        Check.dueFinding("post(0)", x, () -> x.post(0), Check.NOTHING);
        Check.dueRefused("post(4)", x, () -> x.post(4), Check.BAD);
        Check.dueRefused("post(-1)", x, () -> x.post(-1), Check.BAD);
    }

    private static void post() {
        LetterEnds x = Check.posted("p72h05h11l13f04");
        Check.due("houses", x.count(0), 2);
        Check.due("letters", x.count(1), 2);
        Check.due("mood", x.count(4), 7);
        Check.due("weather", x.count(5), 2);
        Check.due("bonds", x.count(8), 16);
        x.carry(0);
        x.day();
        x.carry(1);
        x.keep(0);
        x.keep(2);
        Check.write(x, 1, "p10 h03 t05");
        Check.due("post(1)", x.post(1), 1);
        int[] counts = {1, 1, 0, 0, 1, 0, 0, 0, 3, 1, 0, 0, 2, 0};
        for (int what = 0; what < counts.length; what++) {
            Check.due("post(1), count(" + what + ")", x.count(what), counts[what]);
        }
        Check.dueFinding("post(1), on(0)", x, () -> x.on(0), Check.NOTHING);
        Check.dueAsked("post(1), letter(0, 3)", x, x.letter(0, 3), Check.NONE);
        x.carry(0);
        Check.write(x, 3, "p10 h03 t0");
        Check.dueRefused("post(3), a fault", x, () -> x.post(3), Check.STATE);
        Check.due("post(1) again", x.post(1), 1);
        Check.due("post(1) again, no deeds", x.count(3), 0);
        Check.due("post(1) again, the bond", x.count(8), 3);
    }
}
