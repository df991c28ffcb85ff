/** Promises 15 to 21: deeds, and posts kept. */
public final class DeedsTest {
    public static void main(String[] args) {
        carry();
        turns();
        walks();
        bonds();
        bribe();
        weather();
        day();
        full();
        undo();
        keepAndOn();
        withoutLetters();
        Check.finish();
    }

    private static void carry() {
        LetterEnds x = Check.posted(Check.SIX);
        Check.due("carry(3)", x.carry(3), 8);
        Check.due("carry(3), mood", x.count(4), 6);
        Check.due("carry(3), carried", x.count(7), 8);
        Check.dueAsked("carry(3), bond", x, x.house(0, 0), 13);
        Check.due("carry(0)", x.carry(0), 6);
        Check.due("carry(0), stands", x.count(6), 1);
        Check.dueRefused("carry(0) again", x, () -> x.carry(0), Check.STATE);
        Check.dueRefused("carry(6)", x, () -> x.carry(6), Check.BAD);
        Check.dueRefused("carry(-1)", x, () -> x.carry(-1), Check.BAD);
        Check.due("deeds", x.count(3), 2);
    }

    private static void dueTurn(String signs, int warm, int mood) {
        LetterEnds x = Check.posted(signs);
        Check.due(signs + ", carry(0)", x.carry(0), warm);
        Check.due(signs + ", mood", x.count(4), mood);
    }

    private static void turns() {
        dueTurn("p51h00t06", 6, 6);
        dueTurn("p51h00t05", 5, 5);
        dueTurn("p51h00t04", 4, 5);
        dueTurn("p51h00t03", 3, 4);
        dueTurn("p91h00t09", 9, 9);
        dueTurn("p01h00t00", 0, 0);
        dueTurn("p51h00f09", 9, 5);
        dueTurn("p11h00f00", 1, 1);
        dueTurn("p11h00v00", 1, 0);
        dueTurn("p11h00l02", 1, 0);
        dueTurn("p01h00b00", 5, 0);
        dueTurn("p91h00b08", 8, 9);
        dueTurn("p31h00k00", 5, 3);
        dueTurn("p31h00k07", 7, 4);
    }

    private static void walks() {
        dueTurn("p50h00h00h00v20", 3, 2);
        dueTurn("p52h00h00h00v20", 7, 8);
        dueTurn("p51h00h00h00v20", 5, 5);
        dueTurn("p10h00h00h00h00k30", 5, 0);
        dueTurn("p82h00h00h00h00k30", 5, 9);
        LetterEnds x = Check.posted("p30h00h00h00h00k31k01k11");
        x.carry(0);
        Check.due("far in rain, mood", x.count(4), 0);
        x.weather(2);
        x.carry(1);
        Check.due("back in sun, mood", x.count(4), 3);
        x.carry(2);
        Check.due("one on in sun, mood", x.count(4), 4);
    }

    private static void bonds() {
        LetterEnds x = Check.posted("p51h18h02t09t10");
        x.carry(0);
        Check.dueAsked("a bond at most", x, x.house(0, 0), 20);
        x.carry(1);
        Check.dueAsked("a bond at least", x, x.house(1, 0), 0);
    }

    private static void bribe() {
        LetterEnds x = Check.posted("p31h00l00");
        Check.due("bribe(4)", x.bribe(4), 7);
        Check.due("bribe(9)", x.bribe(9), 9);
        Check.dueRefused("bribe(1) at 9", x, () -> x.bribe(1), Check.STATE);
        Check.dueRefused("bribe(0)", x, () -> x.bribe(0), Check.BAD);
        Check.dueRefused("bribe(10)", x, () -> x.bribe(10), Check.BAD);
        Check.dueRefused("bribe(-1)", x, () -> x.bribe(-1), Check.BAD);
        Check.due("bribes are deeds", x.count(3), 2);
    }

    private static void weather() {
        LetterEnds x = Check.posted("p31h00l00");
        Check.due("weather(0)", x.weather(0), 1);
        Check.due("weather(2)", x.weather(2), 0);
        Check.dueRefused("weather(2) again", x, () -> x.weather(2), Check.STATE);
        Check.dueRefused("weather(3)", x, () -> x.weather(3), Check.BAD);
        Check.dueRefused("weather(-1)", x, () -> x.weather(-1), Check.BAD);
        Check.due("weathers are deeds", x.count(3), 2);
        Check.due("the weather is told", x.count(5), 2);
    }

    private static void day() {
        LetterEnds x = Check.posted(Check.SIX);
        Check.due("day() of none", x.day(), 0);
        x.carry(0);
        x.carry(5);
        int mood = x.count(4);
        Check.due("day() of two", x.day(), 2);
        Check.due("the day", x.count(2), 2);
        Check.due("he stands at house 0", x.count(6), 0);
        Check.due("nothing was carried", x.count(7), 0);
        Check.due("the mood stays", x.count(4), mood);
        Check.due("days are deeds", x.count(3), 4);
        Check.due("a letter is carried again", x.carry(5), 7);
    }

    private static void full() {
        LetterEnds x = Check.posted("p51h10t05t05");
        x.carry(0);
        for (int i = 1; i < 40; i++) {
            Check.due("weather, deed " + i, x.weather(i % 2 * 2), i == 1 ? 1 : 2 - i % 2 * 2);
        }
        Check.due("40 deeds", x.count(3), 40);
        Check.dueRefused("full, carry(1)", x, () -> x.carry(1), Check.FULL);
        Check.dueRefused("full, carry(0)", x, () -> x.carry(0), Check.STATE);
        Check.dueRefused("full, carry(2)", x, () -> x.carry(2), Check.BAD);
        Check.dueRefused("full, bribe(1)", x, () -> x.bribe(1), Check.FULL);
        Check.dueRefused("full, bribe(0)", x, () -> x.bribe(0), Check.BAD);
        Check.dueRefused("full, weather as it is", x, () -> x.weather(x.count(5)), Check.STATE);
        Check.dueRefused("full, weather(1)", x, () -> x.weather(1), Check.FULL);
        Check.dueRefused("full, day()", x, () -> x.day(), Check.FULL);
        Check.dueRefused("full, lots(1, 1)", x, () -> x.lots(1, 1), Check.FULL);
        Check.due("undo(39)", x.undo(39), 1);
        Check.due("a letter is the 40th", x.carry(1), 5);
        Check.due("undo(39), a letter", x.undo(39), 1);
        Check.due("a day is the 40th", x.day(), 1);
        Check.dueRefused("full by a day, day()", x, () -> x.day(), Check.FULL);
        Check.due("undo(39), a day", x.undo(39), 1);
        Check.due("a bribe is the 40th", x.bribe(9), 9);
        Check.dueRefused("full, bribe(1) at 9", x, () -> x.bribe(1), Check.STATE);
    }

    private static void undo() {
        LetterEnds x = Check.posted(Check.SIX);
        long[] digests = new long[12];
        digests[0] = x.digest();
        x.carry(3);
        digests[1] = x.digest();
        x.bribe(2);
        digests[2] = x.digest();
        x.weather(2);
        digests[3] = x.digest();
        x.carry(5);
        digests[4] = x.digest();
        x.day();
        digests[5] = x.digest();
        x.carry(1);
        digests[6] = x.digest();
        x.lots(5, 77);
        digests[11] = x.digest();
        Check.dueRefused("undo(-1)", x, () -> x.undo(-1), Check.BAD);
        Check.dueRefused("undo(12)", x, () -> x.undo(12), Check.BAD);
        Check.due("undo(11)", x.undo(11), 0);
        Check.due("undo(11), digest", x.digest(), digests[11]);
        Check.due("undo(6)", x.undo(6), 5);
        for (int n = 6; n >= 0; n--) {
            Check.due("undo(" + n + ")", x.undo(n), n == 6 ? 0 : 1);
            Check.due("undo(" + n + "), digest", x.digest(), digests[n]);
        }
        Check.due("undo of none", x.undo(0), 0);
    }

    private static void keepAndOn() {
        LetterEnds x = Check.posted(Check.SIX);
        x.carry(3);
        x.weather(1);
        Check.due("keep(2)", x.keep(2), 2);
        long before = x.digest();
        x.carry(0);
        x.day();
        Check.due("on(2)", x.on(2), 2);
        Check.due("on(2), digest", x.digest(), before);
        Check.due("one is kept", x.count(13), 1);
        Check.due("undo behind on", x.undo(1), 1);
        Check.due("undo behind on, weather", x.count(5), 0);
        Check.due("on(2) once more", x.on(2), 2);
        Check.due("on(2) once more, digest", x.digest(), before);
        x.bribe(1);
        Check.due("keep(2) over it", x.keep(2), 3);
        Check.due("keep(0)", x.keep(0), 3);
        x.undo(0);
        Check.due("on(2) of the later", x.on(2), 3);
        Check.due("two are kept", x.count(13), 2);
        Check.dueFinding("on(1)", x, () -> x.on(1), Check.NOTHING);
        for (int k : new int[] {-1, 3}) {
            Check.dueRefused("keep(" + k + ")", x, () -> x.keep(k), Check.BAD);
            Check.dueRefused("on(" + k + ")", x, () -> x.on(k), Check.BAD);
        }
    }

    private static void withoutLetters() {
        LetterEnds x = new LetterEnds();
        Check.dueRefused("without letters, carry(0)", x, () -> x.carry(0), Check.BAD);
        Check.dueRefused("without letters, bribe(1)", x, () -> x.bribe(1), Check.STATE);
        Check.dueRefused("without letters, bribe(0)", x, () -> x.bribe(0), Check.BAD);
        Check.dueRefused("without letters, weather(1)", x, () -> x.weather(1), Check.STATE);
        Check.dueRefused("without letters, day()", x, () -> x.day(), Check.STATE);
        Check.dueRefused("without letters, keep(0)", x, () -> x.keep(0), Check.STATE);
        Check.dueRefused("without letters, keep(3)", x, () -> x.keep(3), Check.BAD);
        Check.dueFinding("without letters, on(0)", x, () -> x.on(0), Check.NOTHING);
        Check.due("without letters, undo(0)", x.undo(0), 0);
        Check.dueRefused("without letters, undo(1)", x, () -> x.undo(1), Check.BAD);
    }
}
