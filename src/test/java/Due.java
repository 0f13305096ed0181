/** Counts what was asked and what was answered wrongly; each test ends with end(). */
final class Due {
    private static int asked = 0;
    private static int wrong = 0;

    private Due() {
    }

    static void is(String what, long got, long want) {
        asked++;
        if (got == want) return;
        wrong++;
        if (wrong <= 40) System.out.println("  " + what + " answered " + got + ", due is " + want);
    }

    static void holds(String what, boolean is) {
        is(what, is ? 1 : 0, 1);
    }

    static void end(String test) {
        System.out.println("  " + test + ": " + asked + " answers, " + wrong + " wrong");
        if (wrong != 0 || asked == 0) System.exit(1);
    }

    /** Puts a text on THE TAPE, eight bytes and then byte by byte. */
    static void tape(HowDeep x, String s) {
        int i = 0;
        for (; i + 8 <= s.length(); i += 8) {
            long w = 0;
            for (int k = 0; k < 8; k++) w = w << 8 | s.charAt(i + k) & 255;
            x.feed(w, 8);
        }
        for (; i < s.length(); i++) x.feed(s.charAt(i) & 255, 1);
    }

    static int text(HowDeep x, String s) {
        tape(x, s);
        return x.text();
    }

    /** The new TEXT is THE LAW. */
    static void law(HowDeep x, String s) {
        int t = text(x, s);
        if (t < 0) throw new IllegalStateException("no text: " + s + ": " + t);
        x.force(t);
    }

    static void sheet(HowDeep x, int s, int sort, int... numbers) {
        x.sheet(s, sort, numbers.length);
        for (int i = 0; i < numbers.length; i++) x.cell(s, i, numbers[i]);
    }

    static int place(HowDeep x, int... first) {
        sheet(x, 3, 2, first);
        return x.place(3);
    }
}
