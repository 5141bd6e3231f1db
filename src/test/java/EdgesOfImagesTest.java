import java.util.List;

/** The bounds of rows that wait and of images: section 5 of "Terms", promises 41 to 45. */
public final class EdgesOfImagesTest {
    private static final int BAD = WordLeash.BAD, NO = WordLeash.NO, FULL = WordLeash.FULL, NONE = WordLeash.NONE;
    private static final int NOTHING = WordLeash.NOTHING, MOST = Integer.MAX_VALUE, LEAST = Integer.MIN_VALUE;

    public static void main(String[] args) {
        sixtyWaitAtMost();
        anyNumberWaits();
        checkIsOf1To30();
        checkOfThirtyDays();
        checkCountsThoseThatStandRight();
        checkWithNoneWaiting();
        checkWithOneMissingOrTooMany();
        checkStopsAtDay9999();
        checkLeavesNoneWaiting();
        checkGoesByTheImageAlone();
        noImageAtFirst();
        keepsAnEmptyBorder();
        keepsAFullBorder();
        theLastImageCounts();
        againAndAgain();
        anImageLeavesTheRest();
        anImageKeepsTheDay();
        countsAre0To10();
        countsOfAll();
        Due.end("EdgesOfImagesTest");
    }

    private static void sixtyWaitAtMost() {
        WordLeash x = new WordLeash();
        for (int i = 1; i <= 60; i++) {
            Due.is("waiting", x.tell(i), i);
            Due.is("count", x.count(8), i);
        }
        for (int i = 0; i < 3; i++) {
            Due.is("the next", x.tell(0), FULL);
            Due.is("count", x.count(8), 60);
        }
        x.check(1);
        Due.is("room again", x.tell(0), 1);
    }

    private static void anyNumberWaits() {
        WordLeash x = new WordLeash();
        int i = 0;
        for (int v : new int[] {MOST, LEAST, 0, -1, NONE, BAD, FULL}) {
            i++;
            Due.is("waiting", x.tell(v), i);
        }
    }

    /** A traveller that brings a WORD of DUTY 10 sooner or later, another WORD of DUTY 1, too; kept. */
    private static WordLeash kept() {
        WordLeash x = new WordLeash();
        x.seed(3);
        x.word(0, 1, 10, 1);
        x.word(0, 1, 1, 1);
        for (int i = 0; i < 6; i++) {
            x.traveller();
        }
        x.rule(0, 10);
        x.cross(0, 1);
        x.keep();
        return x;
    }

    private static int[] daysTold(WordLeash kept, int n) {
        int[] rows = new int[2 * n];
        for (int i = 0; i < n; i++) {
            kept.days(1);
            rows[2 * i] = kept.count(5);
            rows[2 * i + 1] = kept.count(6);
        }
        return rows;
    }

    private static void tell(WordLeash x, int[] rows, int many) {
        for (int i = 0; i < many; i++) {
            x.tell(rows[i]);
        }
    }

    private static void checkIsOf1To30() {
        for (int n : new int[] {0, -1, 31, 60, MOST, LEAST}) {
            Due.is("check of " + n, kept().check(n), BAD);
        }
        for (int n = 1; n <= 30; n++) {
            WordLeash x = kept();
            tell(x, daysTold(kept(), n), 2 * n);
            Due.is("check of " + n, x.check(n), 0);
        }
    }

    private static void checkOfThirtyDays() {
        int[] rows = daysTold(kept(), 30);
        for (int wrong = 0; wrong < 60; wrong++) {
            WordLeash x = kept();
            rows[wrong] ^= LEAST;
            tell(x, rows, 60);
            Due.is("wrong at " + wrong, x.check(30), 1 + wrong);
            rows[wrong] ^= LEAST;
        }
        WordLeash x = kept();
        tell(x, rows, 60);
        Due.is("right", x.check(30), 0);
        tell(x, rows, 59);
        Due.is("the last is missing", x.check(30), 60);
    }

    private static void checkCountsThoseThatStandRight() {
        int[] rows = daysTold(kept(), 4);
        WordLeash x = kept();
        tell(x, new int[] {rows[0], rows[1] + 1, rows[2], rows[3] + 1}, 4);
        Due.is("of two the first", x.check(2), 2);
        tell(x, new int[] {rows[1], rows[0]}, 2);
        Due.is("PAID comes first", x.check(1), 1);
        tell(x, new int[] {rows[0], rows[1], rows[1] + 5, rows[3]}, 4);
        Due.is("the second day's PAID", x.check(2), 3);
    }

    private static void checkWithNoneWaiting() {
        WordLeash x = kept();
        Due.is("none waits", x.check(1), 1);
        Due.is("none waits for thirty", x.check(30), 1);
    }

    private static void checkWithOneMissingOrTooMany() {
        for (int n = 1; n <= 29; n += 7) {
            int[] rows = daysTold(kept(), n + 1);
            WordLeash x = kept();
            tell(x, rows, 2 * n - 1);
            Due.is("one is missing", x.check(n), 2 * n);
            tell(x, rows, 2 * n + 1);
            Due.is("one too many, though it would be right", x.check(n), 2 * n + 1);
            tell(x, rows, 2 * n + 2);
            Due.is("two too many", x.check(n), 2 * n + 1);
            tell(x, rows, 2 * n);
            Due.is("right", x.check(n), 0);
        }
    }

    private static WordLeash keptOnDay(int day) {
        WordLeash x = new WordLeash();
        for (int i = 0; i < day / 60; i++) {
            x.days(60);
        }
        if (day % 60 > 0) {
            x.days(day % 60);
        }
        x.word(0, 1, 10, 1);
        x.traveller();
        x.keep();
        return x;
    }

    private static void checkStopsAtDay9999() {
        for (int left = 0; left <= 3; left++) {
            int[] rows = daysTold(keptOnDay(9999 - left), left);
            WordLeash x = keptOnDay(9999 - left);
            for (int n = 1; n <= 30; n += n < 5 ? 1 : 25) {
                int many = Math.min(n, left);
                tell(x, rows, 2 * many);
                Due.is("check of " + n + ", " + left + " left", x.check(n), 0);
                tell(x, rows, 2 * many);
                x.tell(0);
                Due.is("one too many", x.check(n), 2 * many + 1);
                if (many > 0) {
                    tell(x, rows, 2 * many - 1);
                    Due.is("one is missing", x.check(n), 2 * many);
                }
            }
        }
    }

    private static void checkLeavesNoneWaiting() {
        int[][] answers = {{1, NO}, {0, BAD}, {31, BAD}};
        for (int[] a : answers) {
            WordLeash x = new WordLeash();
            x.tell(1);
            x.tell(2);
            Due.is("check", x.check(a[0]), a[1]);
            Due.is("none waits", x.count(8), 0);
        }
        WordLeash x = kept();
        int[] rows = daysTold(kept(), 1);
        tell(x, rows, 2);
        Due.is("right", x.check(1), 0);
        Due.is("none waits", x.count(8), 0);
        tell(x, rows, 1);
        Due.is("wrong", x.check(1), 2);
        Due.is("none waits", x.count(8), 0);
        x.tell(5);
        Due.is("BAD with an image", x.check(31), BAD);
        Due.is("none waits", x.count(8), 0);
    }

    private static void checkGoesByTheImageAlone() {
        WordLeash x = kept();
        int[] rows = daysTold(kept(), 5);
        x.days(60);
        x.forget();
        x.seed(99);
        x.set(0, 2, 77);
        Due.text(x, "duty 55");
        tell(x, rows, 10);
        Due.is("right by the image", x.check(5), 0);
        x.keep();
        tell(x, rows, 10);
        Due.is("not by a later one", x.check(5), 1);
    }

    private static void noImageAtFirst() {
        WordLeash x = new WordLeash();
        Due.is("back", x.back(), NO);
        Due.is("check", x.check(1), NO);
        x.deal(3);
        Due.is("back with WORDS", x.back(), NO);
        Due.is("they stay", x.count(0), 3);
    }

    private static void keepsAnEmptyBorder() {
        WordLeash x = new WordLeash();
        Due.is("keep", x.keep(), 0);
        x.deal(10);
        x.traveller();
        x.days(5);
        x.rule(0, 1);
        x.rule(1, 1);
        Due.text(x, "duty 1");
        Due.is("back", x.back(), 0);
        int[] due = {0, 0, 0, 6, 50, 0, 0, 0, 0, 0, 1};
        for (int what = 0; what < due.length; what++) {
            Due.is("count " + what, x.count(what), due[what]);
        }
        Due.is("no WORD", x.told(0, 0), BAD);
        Due.is("no TRAVELLER", x.travels(0, 0), BAD);
        Due.is("no TEXT", x.textTold(0, 0), BAD);
    }

    private static WordLeash fullAndBack() {
        WordLeash x = Worlds.full();
        x.keep();
        x.forget();
        x.seed(1);
        x.days(60);
        x.gives(5, 0);
        x.back();
        return x;
    }

    private static WordLeash fullAndKept() {
        WordLeash x = Worlds.full();
        Due.is("keep", x.keep(), 10);
        return x;
    }

    private static void keepsAFullBorder() {
        List<Integer> then = Worlds.read(EdgesOfImagesTest::fullAndKept);
        Due.holds("all as then", Worlds.read(EdgesOfImagesTest::fullAndBack).equals(then));
        WordLeash x = fullAndBack();
        Due.is("back again", x.back(), 10);
        Due.is("no room for a WORD", x.word(0, 1, 1, 1), FULL);
        Due.is("no room for a TRAVELLER", x.traveller(), FULL);
    }

    private static void theLastImageCounts() {
        WordLeash x = new WordLeash();
        x.deal(2);
        Due.is("the first", x.keep(), 2);
        x.deal(3);
        Due.is("the second", x.keep(), 5);
        x.deal(5);
        Due.is("back to the second", x.back(), 5);
        Due.is("there again", x.back(), 5);
    }

    private static void againAndAgain() {
        WordLeash x = kept();
        int[] rows = daysTold(kept(), 3);
        for (int round = 0; round < 5; round++) {
            for (int i = 0; i < 3; i++) {
                x.days(1);
                Due.is("PAID", x.count(5), rows[2 * i]);
                Due.is("STAMPS", x.count(6), rows[2 * i + 1]);
            }
            x.deal(8);
            x.rule(0, 1);
            Due.is("back", x.back(), 2);
        }
    }

    private static void anImageLeavesTheRest() {
        WordLeash x = new WordLeash();
        x.sheet(0, 1, 2);
        x.lay(0, 3, 5);
        x.tell(1);
        x.feed(0, 0, 0);
        x.keep();
        x.mark(0, 1, NONE);
        x.sheet(1, 0, 1);
        x.lay(0, 3, 6);
        x.lay(1, 3, 7);
        x.tell(2);
        x.feed(0, 0, 0);
        x.back();
        Due.is("numbers that wait", x.count(8), 2);
        Due.is("bytes", x.count(9), 24);
        Due.is("a SLOT", x.rest(0, 100), 6);
        Due.is("another SLOT", x.rest(1, 100), 7);
        Due.is("another SHEET", x.mark(1, 0, 1), 1);
        x.sheet(1, -1, 0);
        x.back();
        Due.is("it stays MISSING", x.mark(1, 0, 1), NOTHING);
        x.lay(2, 2, 0);
        Due.is("NO NUMBER stays", x.item(2, 1), WordLeash.KIND);
    }

    private static void anImageKeepsTheDay() {
        WordLeash x = keptOnDay(9990);
        Due.is("nine days are left", x.days(60) >= 0 ? x.count(2) : -1, 9999);
        x.back();
        Due.is("nine days are left again", x.count(2), 9990);
        x.days(8);
        Due.is("one is left", x.count(2), 9998);
    }

    private static void countsAre0To10() {
        WordLeash x = new WordLeash();
        for (int what : new int[] {-1, 11, 12, MOST, LEAST}) {
            Due.is("count " + what, x.count(what), BAD);
        }
        int[] due = {0, 0, 0, 6, 50, 0, 0, 0, 0, 0, 1};
        for (int what = 0; what < due.length; what++) {
            Due.is("count " + what, x.count(what), due[what]);
        }
    }

    private static void countsOfAll() {
        WordLeash x = new WordLeash();
        for (int i = 0; i < 10; i++) {
            x.word(0, 1, i + 1, 9);
        }
        x.rule(0, 10);
        for (int i = 0; i < 6; i++) {
            x.traveller();
            x.cross(i, 1 << i);
        }
        x.cross(5, 512);
        Due.is("PAID of all, together", x.count(5), 1 + 2 + 3 + 4 + 5 + 6 + 10);
        Due.is("STAMPS of all", x.count(6), 7);
        x.gives(5, 0);
        Due.is("PAID stays", x.count(5), 31);
        Due.is("STAMPS stay", x.count(6), 7);
    }
}
