/** Counts answers that are due and those that are not; a test program ends with end(). */
final class Due {
    private static int passed = 0;
    private static int failed = 0;

    private Due() {
    }

    static void is(String what, long got, long want) {
        if (got == want) {
            passed++;
            return;
        }
        failed++;
        System.out.println(what + " answered " + got + ", due is " + want);
    }

    static void holds(String what, boolean so) {
        is(what, so ? 1 : 0, 1);
    }

    /** Every count tells the same as before: a call that is refused changes nothing. */
    static long[] counts(WordLeash x) {
        long[] counts = new long[11];
        for (int what = 0; what < counts.length; what++) {
            counts[what] = x.count(what);
        }
        return counts;
    }

    static void same(String what, WordLeash x, long[] before) {
        for (int i = 0; i < before.length; i++) {
            is(what + ", count " + i, x.count(i), before[i]);
        }
    }

    /** A text comes to THE TAPE and is told there as a TEXT. */
    static int text(WordLeash x, String text) {
        tape(x, text);
        return x.text();
    }

    static void tape(WordLeash x, String text) {
        int has = x.count(9);
        int[] bytes = new int[(text.length() + 11) / 12 * 12];
        for (int i = 0; i < text.length(); i++) {
            bytes[i] = text.charAt(i);
        }
        for (int i = 0; i < bytes.length; i += 12) {
            x.feed(four(bytes, i), four(bytes, i + 4), four(bytes, i + 8));
        }
        x.trim(has + text.length());
    }

    private static int four(int[] bytes, int at) {
        return bytes[at] << 24 | bytes[at + 1] << 16 | bytes[at + 2] << 8 | bytes[at + 3];
    }

    static void end(String program) {
        System.out.println(program);
        System.out.println(passed + " passed, " + failed + " failed");
        if (failed > 0) {
            System.exit(1);
        }
    }
}
