/** Promises 34 to 36: chances, means, lots. */
public final class ChancesTest {
    public static void main(String[] args) {
        odds();
        mid();
        liftAheadOfTheWalk();
        refused();
        lots();
        lotsOfEachKind();
        lotsRefused();
        Check.finish();
    }

    private static void odds() {
        // dull, mood 5: a love letter without words ends at 5 or, by p of 12, at 6
        LetterEnds x = Check.posted("p51h00v00v00");
        Check.rowOf(x, 0, 0);
        long digest = x.digest();
        Check.duePart("odds(0, 5, 3)", x, x.odds(0, 5, 3), 1, 1);
        Check.duePart("odds(0, 6, 3)", x, x.odds(0, 6, 3), 1, 4);
        Check.duePart("odds(0, 6, 5)", x, x.odds(0, 6, 5), 5, 12);
        Check.duePart("odds(0, 6, 0)", x, x.odds(0, 6, 0), 0, 1);
        Check.duePart("odds(0, 6, 12)", x, x.odds(0, 6, 12), 1, 1);
        Check.duePart("odds(0, 7, 12)", x, x.odds(0, 7, 12), 0, 1);
        // 6 turns his mood to 7: together 10, 11, 13 (lifted first), 14
        Check.rowOf(x, 0, 0, 1);
        Check.duePart("odds(0, 10, 1)", x, x.odds(0, 10, 1), 1, 1);
        Check.duePart("odds(0, 11, 1)", x, x.odds(0, 11, 1), 23, 144);
        Check.duePart("odds(0, 12, 1)", x, x.odds(0, 12, 1), 1, 12);
        Check.duePart("odds(0, 14, 1)", x, x.odds(0, 14, 1), 1, 144);
        Check.duePart("odds(0, 54, 1)", x, x.odds(0, 54, 1), 0, 1);
        Check.due("odds() is aside", x.count(3) + x.count(7), 0);
        Check.rowOf(x, 0);
        Check.duePart("odds of none at 0", x, x.odds(0, 0, 7), 1, 1);
        Check.duePart("odds of none at 1", x, x.odds(0, 1, 7), 0, 1);
        x.tear(0);
        Check.rowOf(x, 0, 0);
        Check.due("the post stays", x.digest(), digest);
    }

    private static void mid() {
        LetterEnds x = Check.posted("p51h00v00v00");
        Check.rowOf(x, 0, 0);
        Check.duePart("mid(0, 0)", x, x.mid(0, 0), 5, 1);
        Check.duePart("mid(0, 6)", x, x.mid(0, 6), 11, 2);
        Check.duePart("mid(0, 12)", x, x.mid(0, 12), 6, 1);
        Check.rowOf(x, 0, 0, 1);
        Check.duePart("mid(0, 6) of two", x, x.mid(0, 6), 12, 1);
        // 10 * 121 + 11 * 11 + 13 * 11 + 14 of 144
        Check.duePart("mid(0, 1) of two", x, x.mid(0, 1), 31, 3);
        Check.rowOf(x, 0);
        Check.duePart("mid of none", x, x.mid(0, 3), 0, 1);
        LetterEnds six = Check.posted("p01h00f00f00f00f00f00f00");
        Check.rowOf(six, 1, 5, 4, 3, 2, 1, 0);
        // French ones turn nothing, so the means are 1, 2, .. 6 times 5 of 12
        Check.duePart("mid of six", six, six.mid(1, 5), 35, 4);
        Check.duePart("odds of six, all lifted", six, six.odds(1, 21, 1), 1, 2985984);
    }

    private static void liftAheadOfTheWalk() {
        // at 9 the lift is lost, then rain takes 1
        LetterEnds x = Check.posted("p90h00h00v10");
        Check.rowOf(x, 0, 0);
        Check.duePart("mid(0, 6) at 9 in rain", x, x.mid(0, 6), 8, 1);
        // at 0 the lift stands, then rain takes it
        LetterEnds y = Check.posted("p00h00h00v10");
        Check.rowOf(y, 0, 0);
        Check.duePart("mid(0, 12) at 0 in rain", y, y.mid(0, 12), 0, 1);
        // from where he stands now
        LetterEnds z = Check.posted("p51h00h00k15v10v00");
        z.carry(0);
        z.weather(0);
        Check.rowOf(z, 0, 1);
        Check.duePart("mid(0, 0) at his house", z, z.mid(0, 0), 5, 1);
        Check.rowOf(z, 0, 2);
        Check.duePart("mid(0, 0) a house away", z, z.mid(0, 0), 4, 1);
    }

    private static void dueBoth(String call, LetterEnds x, int r, int want) {
        if (want < 0) {
            Check.dueRefused("odds, " + call, x, () -> x.odds(r, 0, 0), want);
            Check.dueRefused("mid, " + call, x, () -> x.mid(r, 0), want);
        } else {
            Check.dueFinding("odds, " + call, x, () -> x.odds(r, 0, 0), want);
            Check.dueFinding("mid, " + call, x, () -> x.mid(r, 0), want);
        }
    }

    private static void refused() {
        LetterEnds x = Check.posted("p51h00v00v00");
        dueBoth("row 6", x, 6, Check.BAD);
        dueBoth("row -1", x, -1, Check.BAD);
        Check.dueRefused("odds(0, 55, 0)", x, () -> x.odds(0, 55, 0), Check.BAD);
        Check.dueRefused("odds(0, -1, 0)", x, () -> x.odds(0, -1, 0), Check.BAD);
        Check.dueRefused("odds(0, 0, 13)", x, () -> x.odds(0, 0, 13), Check.BAD);
        Check.dueRefused("odds(0, 0, -1)", x, () -> x.odds(0, 0, -1), Check.BAD);
        Check.dueRefused("mid(0, 13)", x, () -> x.mid(0, 13), Check.BAD);
        Check.dueRefused("mid(0, -1)", x, () -> x.mid(0, -1), Check.BAD);
        dueBoth("a missing row", x, 0, Check.NOTHING);
        Check.rowOf(x, 0, 9, 9, 9, 9, 9, 9, 9);
        dueBoth("seven", x, 0, Check.SIZE);
        Check.rowOf(x, 0, 2);
        dueBoth("no letter", x, 0, Check.UNLIKE);
        Check.rowOf(x, 0, -1);
        dueBoth("one below 0", x, 0, Check.UNLIKE);
        Check.rowOf(x, 0, 1, 1);
        dueBoth("one twice", x, 0, Check.UNLIKE);
        Check.rowOf(x, 0, 1, 0);
        Check.duePart("odds of both", x, x.odds(0, 0, 0), 1, 1);
        x.carry(1);
        dueBoth("one that is carried", x, 0, Check.UNLIKE);
        LetterEnds none = new LetterEnds();
        Check.rowOf(none, 0);
        Check.duePart("without letters, mid of none", none, none.mid(0, 5), 0, 1);
    }

    private static void lots() {
        LetterEnds x = Check.posted(Check.SIX);
        // 48271: by 8 is 6033, modulo 8 is 1: letter 48271 modulo 6 is 1, which ends at 2
        Check.due("lots(1, 1)", x.lots(1, 1), 30);
        Check.due("lots(1, 1), carried", x.count(7), 2);
        Check.due("lots(1, 1), deeds", x.count(3), 1);
        // what was carried stays so, and is a deed
        long mood = x.count(4);
        Check.due("lots(1, 1) again", x.lots(1, 1), 30);
        Check.due("lots(1, 1) again, deeds", x.count(3), 2);
        Check.due("lots(1, 1) again, mood", x.count(4), mood);
        Check.due("lots are undone", x.undo(0), 2);
        Check.due("lots are undone, bonds", x.count(8), 33);
        LetterEnds one = Check.posted("p51h10t09");
        Check.due("lots(1, 1) of one letter", one.lots(1, 1), 14);
        Check.due("lots(1, 1) of one letter, carried", one.count(7), 1);
    }

    /** A seed whose first number has this choice; the number itself is worked out here. */
    private static int seedFor(int choice, int from) {
        for (int seed = from; seed < from + 10000; seed++) {
            if (numberOf(seed) / 8 % 8 == choice) {
                return seed;
            }
        }
        return 0;
    }

    private static long numberOf(int seed) {
        return 48271L * seed % 2147483647L;
    }

    private static void lotsOfEachKind() {
        for (int from = 1; from < 2000000000; from += 99999999) {
            for (int choice = 0; choice < 8; choice++) {
                int seed = seedFor(choice, from);
                long number = numberOf(seed);
                LetterEnds x = Check.posted("p01h00h00h00h00h00v00v10v20v30v40");
                LetterEnds y = Check.posted("p01h00h00h00h00h00v00v10v20v30v40");
                String call = "lots(1, " + seed + ")";
                Check.due(call, x.lots(1, seed), 0);
                if (choice <= 4) {
                    y.carry((int) (number % 5));
                } else if (choice == 5) {
                    y.bribe((int) (1 + number / 64 % 9));
                } else if (choice == 6) {
                    int weather = (int) (number / 64 % 3);
                    if (weather == 1) {
                        y.bribe(1);
                        x.bribe(1);
                        Check.due(call + ", weather as it is", x.count(5), 1);
                        Check.due(call + ", a deed", x.count(3), 2);
                        continue;
                    }
                    y.weather(weather);
                } else {
                    y.day();
                }
                Check.due(call + ", digest()", x.digest(), y.digest());
            }
        }
    }

    private static void lotsRefused() {
        LetterEnds x = Check.posted(Check.SIX);
        Check.dueRefused("lots(0, 1)", x, () -> x.lots(0, 1), Check.BAD);
        Check.dueRefused("lots(21, 1)", x, () -> x.lots(21, 1), Check.BAD);
        Check.dueRefused("lots(-1, 1)", x, () -> x.lots(-1, 1), Check.BAD);
        Check.dueRefused("lots(1, 0)", x, () -> x.lots(1, 0), Check.BAD);
        Check.dueRefused("lots(1, -1)", x, () -> x.lots(1, -1), Check.BAD);
        Check.dueRefused("lots(1, most)", x, () -> x.lots(1, 2147483647), Check.BAD);
        x.lots(20, 2147483646);
        x.lots(19, 5);
        Check.due("39 deeds", x.count(3), 39);
        Check.dueRefused("lots(2, 1) behind 39", x, () -> x.lots(2, 1), Check.FULL);
        Check.dueRefused("lots(2, 0) behind 39", x, () -> x.lots(2, 0), Check.BAD);
        x.lots(1, 9);
        Check.due("40 deeds", x.count(3), 40);
        Check.dueRefused("lots(1, 1) behind 40", x, () -> x.lots(1, 1), Check.FULL);
        LetterEnds none = new LetterEnds();
        Check.dueRefused("without letters, lots(1, 1)", none, () -> none.lots(1, 1), Check.STATE);
        Check.dueRefused("without letters, lots(1, 0)", none, () -> none.lots(1, 0), Check.BAD);
    }
}
