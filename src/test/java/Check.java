/** What the tests share: due answers are compared, wrong ones printed and counted; finish() ends with 1 if there was one. */
final class Check {
    static final int BAD = -1, FULL = -2, FINDING = -3, STATE = -4, NONE = -9;
    static final int NOTHING = 1, BEYOND = 2, UNLIKE = 3, NOUGHT = 4, SIZE = 5;

    /** The post of the shared tests: three houses, a letter of each kind. */
    static final String SIX = "p50 h10h03h20 l17t12b24v03k21f26";

    static final int LEAST = Integer.MIN_VALUE, MOST = Integer.MAX_VALUE;

    private static int wrong;
    private static int asked;

    private Check() {
    }

    static void due(String call, long got, long want) {
        asked++;
        if (got != want) {
            wrong++;
            System.out.println(call + " answered " + got + ", due is " + want);
        }
    }

    static int wrong() {
        return wrong;
    }

    static int compared() {
        return asked;
    }

    /** An answer that tells by asked(). */
    static void dueAsked(String call, LetterEnds x, int got, int want) {
        due(call, got, 1);
        due(call + ", asked()", x.asked(), want);
    }

    /** A chance or a mean. */
    static void duePart(String call, LetterEnds x, int got, long up, long low) {
        due(call, got, 1);
        due(call + ", upper()", x.upper(), up);
        due(call + ", lower()", x.lower(), low);
    }

    /** A refusal with a finding, which must count once and change nothing else. */
    static void dueFinding(String call, LetterEnds x, java.util.function.IntSupplier answer, int which) {
        long digest = x.digest();
        int told = x.asked();
        long up = x.upper();
        long low = x.lower();
        int often = x.findings(which);
        due(call, answer.getAsInt(), FINDING);
        due(call + ", finding()", x.finding(), which);
        due(call + ", findings(" + which + ")", x.findings(which), often + 1);
        dueUnchanged(call, x, digest, told, up, low);
    }

    /** A refusal without a finding, or NONE, which must change nothing. */
    static void dueRefused(String call, LetterEnds x, java.util.function.IntSupplier answer, int want) {
        long digest = x.digest();
        int told = x.asked();
        long up = x.upper();
        long low = x.lower();
        int latest = x.finding();
        int all = allFindings(x);
        due(call, answer.getAsInt(), want);
        due(call + ", finding()", x.finding(), latest);
        due(call + ", all findings()", allFindings(x), all);
        dueUnchanged(call, x, digest, told, up, low);
    }

    /** BAD just outside these bounds and far from them, answered otherwise at both of them. */
    static void dueBounds(String call, LetterEnds x, int low, int high, java.util.function.IntUnaryOperator answer) {
        for (int v : new int[] {low - 1, high + 1, LEAST, MOST}) {
            dueRefused(call + " for " + v, x, () -> answer.applyAsInt(v), BAD);
        }
        for (int v : new int[] {low, high}) {
            due(call + " for " + v + " is BAD", answer.applyAsInt(v) == BAD ? 1 : 0, 0);
        }
    }

    static void dueFindings(String call, LetterEnds x, int which, java.util.function.IntUnaryOperator answer, int... values) {
        for (int v : values) {
            dueFinding(call + " for " + v, x, () -> answer.applyAsInt(v), which);
        }
    }

    private static void dueUnchanged(String call, LetterEnds x, long digest, int told, long up, long low) {
        due(call + ", digest()", x.digest(), digest);
        due(call + ", asked()", x.asked(), told);
        due(call + ", upper()", x.upper(), up);
        due(call + ", lower()", x.lower(), low);
    }

    private static int allFindings(LetterEnds x) {
        int all = 0;
        for (int f = NOTHING; f <= SIZE; f++) {
            all += x.findings(f);
        }
        return all;
    }

    static void write(LetterEnds x, int t, String signs) {
        due("text for " + signs, x.text(t, signs.length()), signs.length());
        for (int i = 0; i < signs.length(); i++) {
            x.put(t, i, signs.charAt(i));
        }
    }

    static LetterEnds posted(String signs) {
        LetterEnds x = new LetterEnds();
        write(x, 0, signs);
        if (x.post(0) < 1) {
            due("post of " + signs, x.post(0), 1);
        }
        return x;
    }

    static void rowOf(LetterEnds x, int r, int... values) {
        x.row(r, values.length);
        for (int i = 0; i < values.length; i++) {
            x.lay(r, i, values[i]);
        }
    }

    /** The row is there with just these values. */
    static void dueRow(String call, LetterEnds x, int r, int... values) {
        for (int i = 0; i < values.length; i++) {
            dueAsked(call + ", at(" + r + ", " + i + ")", x, x.at(r, i), values[i]);
        }
        due(call + ", behind the row's end", x.at(r, values.length), FINDING);
        due(call + ", behind the row's end, finding()", x.finding(), BEYOND);
    }

    static void finish() {
        System.out.println(wrong == 0 ? asked + " answers are as due" : wrong + " of " + asked + " answers are not as due");
        if (wrong != 0 || asked == 0) {
            System.exit(1);
        }
    }
}
