/** Promises 41 to 45: rows, images. */
public final class RowsTest {
    private static final int BAD = WordLeash.BAD, NO = WordLeash.NO, FULL = WordLeash.FULL;
    private static final int MOST = Integer.MAX_VALUE, LEAST = Integer.MIN_VALUE;

    public static void main(String[] args) {
        promise41();
        checkOfTheRightRows();
        checkOfWrongRows();
        checkEndsAtTheLastDay();
        checkRefuses();
        checkGoesByTheImage();
        promise43();
        backAgainAndAgain();
        backLeavesWhatNoImageKeeps();
        backMakesRoom();
        promise45();
        Due.end("RowsTest");
    }

    private static WordLeash ready() {
        WordLeash x = new WordLeash();
        x.seed(12);
        x.deal(9);
        x.rule(1, 80);
        x.rule(0, 10);
        for (int i = 0; i < 5; i++) {
            x.traveller();
        }
        Due.text(x, "duty d+t*3+1");
        return x;
    }

    /** PAID and STAMPS behind each of n days that pass from the image on; all is as the image then. */
    private static int[] daysTold(WordLeash x, int n) {
        int[] rows = new int[2 * n];
        x.back();
        for (int i = 0; i < n; i++) {
            x.days(1);
            rows[2 * i] = x.count(5);
            rows[2 * i + 1] = x.count(6);
        }
        x.back();
        return rows;
    }

    private static void tell(WordLeash x, int[] rows, int many) {
        for (int i = 0; i < many; i++) {
            x.tell(i < rows.length ? rows[i] : 0);
        }
    }

    private static void promise41() {
        WordLeash x = new WordLeash();
        for (int i = 1; i <= 60; i++) {
            Due.is("tell", x.tell(-i), i);
        }
        Due.is("the 61st", x.tell(1), FULL);
        Due.is("sixty wait", x.count(8), 60);
        x.check(1);
        Due.is("none waits", x.count(8), 0);
        Due.is("from one on", x.tell(1), 1);
    }

    private static void checkOfTheRightRows() {
        WordLeash x = ready();
        x.keep();
        for (int n : new int[] {1, 2, 5, 30}) {
            int[] rows = daysTold(x, n);
            tell(x, rows, 2 * n);
            long[] before = Due.counts(x);
            before[8] = 0;
            Due.is("check(" + n + ")", x.check(n), 0);
            Due.same("check is only thought", x, before);
            Due.is("they don't wait any more", x.check(n), 1);
        }
    }

    private static void checkOfWrongRows() {
        WordLeash x = ready();
        x.keep();
        int n = 4;
        int[] rows = daysTold(x, n);
        for (int wrong = 0; wrong < 2 * n; wrong++) {
            rows[wrong]++;
            tell(x, rows, 2 * n);
            Due.is("wrong at " + wrong, x.check(n), 1 + wrong);
            tell(x, rows, 2 * n + 1);
            Due.is("wrong at " + wrong + " and one too many", x.check(n), 1 + wrong);
            rows[wrong]--;
            tell(x, rows, 2 * n);
            Due.is("right again", x.check(n), 0);
            tell(x, rows, wrong);
            Due.is("missing from " + wrong, x.check(n), 1 + wrong);
        }
        tell(x, rows, 2 * n + 1);
        Due.is("one too many", x.check(n), 1 + 2 * n);
        tell(x, rows, 2 * n);
        Due.is("a day less is asked", x.check(n - 1), 2 * n - 1);
        tell(x, rows, 2 * n);
        Due.is("a day more is asked", x.check(n + 1), 2 * n + 1);
        tell(x, daysTold(x, 30), 60);
        Due.is("sixty", x.check(30), 0);
    }

    private static void checkEndsAtTheLastDay() {
        WordLeash x = new WordLeash();
        for (int i = 0; i < 166; i++) {
            x.days(60);
        }
        x.days(37);
        x.word(0, 1, 10, 1);
        x.traveller();
        x.keep();
        int[] rows = daysTold(x, 2);
        tell(x, rows, 4);
        Due.is("two days are left", x.check(30), 0);
        tell(x, rows, 5);
        Due.is("one too many", x.check(30), 5);
        tell(x, rows, 2);
        Due.is("one of them", x.check(1), 0);
        x.days(2);
        tell(x, rows, 4);
        Due.is("by the image, not by now", x.check(2), 0);
        x.keep();
        Due.is("no day is left", x.check(30), 0);
        x.tell(0);
        Due.is("one too many for no day", x.check(30), 1);
    }

    private static void checkRefuses() {
        WordLeash x = new WordLeash();
        x.tell(0);
        Due.is("no image", x.check(1), NO);
        Due.is("none waits behind NO", x.count(8), 0);
        for (int n : new int[] {0, -1, 31, MOST, LEAST}) {
            x.tell(0);
            Due.is("check wrong, without an image", x.check(n), BAD);
            Due.is("none waits behind BAD", x.count(8), 0);
        }
        x.keep();
        for (int n : new int[] {0, -1, 31, MOST, LEAST}) {
            x.tell(0);
            Due.is("check wrong", x.check(n), BAD);
            Due.is("none waits then", x.count(8), 0);
        }
    }

    private static void checkGoesByTheImage() {
        WordLeash x = ready();
        x.keep();
        int[] rows = daysTold(x, 6);
        Due.text(x, "duty 77");
        x.days(9);
        x.seed(1);
        x.forget();
        x.rule(0, 1);
        x.set(0, 3, 50);
        x.gives(0, 511);
        tell(x, rows, 12);
        Due.is("by the image's text and draws", x.check(6), 0);
        Due.is("now stays", x.count(10), 1);
    }

    private static void promise43() {
        WordLeash x = new WordLeash();
        Due.is("keeps no words", x.keep(), 0);
        x.word(0, 1, 1, 1);
        Due.is("back to none", x.back(), 0);
        Due.is("none", x.count(0), 0);
        x.deal(3);
        Due.is("keeps three", x.keep(), 3);
        x.deal(3);
        Due.is("back to three: the last image", x.back(), 3);
        Due.is("three", x.count(0), 3);
    }

    private static long[] all(WordLeash x) {
        long[] all = new long[200];
        int at = 0;
        for (int what : new int[] {0, 1, 2, 3, 4, 5, 6, 7, 10}) {
            all[at++] = x.count(what);
        }
        for (int word = 0; word < 10; word++) {
            for (int what = 0; what < 9; what++) {
                all[at++] = x.told(word, what);
            }
        }
        for (int traveller = 0; traveller < 6; traveller++) {
            all[at++] = x.travels(traveller, 0);
            all[at++] = x.travels(traveller, 1);
            all[at++] = x.bill(traveller);
        }
        for (int key = 0; key < 3; key++) {
            all[at++] = x.why(key);
        }
        all[at++] = x.man(0);
        all[at++] = x.man(1);
        all[at++] = x.fine();
        return all;
    }

    private static void backAgainAndAgain() {
        WordLeash x = new WordLeash();
        Due.is("none is kept", x.back(), NO);
        x = ready();
        x.days(3);
        x.cross(0, 511);
        long[] then = all(x);
        Due.is("keep", x.keep(), 9);
        for (int round = 0; round < 2; round++) {
            x.days(5);
            x.deal(1);
            x.traveller();
            x.turns(0, 5);
            x.set(1, 1, 255);
            x.set(2, 2, 98);
            x.set(3, 3, 97);
            x.gives(1, 1);
            x.rule(0, 1);
            x.rule(1, 1);
            x.forget();
            x.seed(5);
            Due.text(x, "bill 1");
            Due.text(x, "fine 1");
            Due.text(x, "duty 1");
            Due.is("back", x.back(), 9);
            long[] now = all(x);
            for (int i = 0; i < now.length; i++) {
                Due.is("as then, " + i, now[i], then[i]);
            }
        }
    }

    private static void backLeavesWhatNoImageKeeps() {
        WordLeash x = new WordLeash();
        x.sheet(0, 0, 2);
        x.keep();
        x.mark(0, 1, 5);
        x.sheet(1, 1, 3);
        x.lay(0, 2, 0);
        x.lay(1, 3, 17);
        x.tell(4);
        x.feed(0, 0, 0);
        Due.is("back", x.back(), 0);
        Due.is("waits", x.count(8), 1);
        Due.is("tape", x.count(9), 12);
        Due.is("slot with a SHEET", x.item(0, 1), 5);
        Due.is("slot with a number", x.rest(1, 10), 7);
        x.lay(2, 2, 0);
        Due.is("sheet", x.item(2, 1), 5);
        Due.is("another sheet", x.mark(1, 2, 1), 1);
    }

    private static void backMakesRoom() {
        WordLeash x = new WordLeash();
        x.keep();
        x.word(3, 9, 9, 9);
        x.traveller();
        x.cross(0, 1);
        x.back();
        Due.is("a word anew", x.word(0, 1, 2, 3), 0);
        Due.is("a traveller anew", x.traveller(), 0);
        int[] due = {0, 1, 2, 3, 0, 0, 2, 2, 0};
        for (int what = 0; what < due.length; what++) {
            Due.is("anew, " + what, x.told(0, what), due[what]);
        }
        Due.is("holds nothing", x.travels(0, 0), 0);
        Due.is("paid nothing", x.travels(0, 1), 0);
    }

    private static void promise45() {
        WordLeash x = ready();
        x.days(7);
        x.tell(1);
        x.tell(1);
        x.feed(1, 2, 3);
        int paid = 0;
        int stamps = 0;
        for (int i = 0; i < 5; i++) {
            paid += x.travels(i, 1);
        }
        for (int i = 0; i < 9; i++) {
            stamps += x.told(i, 4);
        }
        int[] due = {9, 5, 7, 10, 80, paid, stamps, 1, 2, 12};
        for (int what = 0; what < due.length; what++) {
            Due.is("count " + what, x.count(what), due[what]);
        }
        Due.is("z", x.count(10), x.seed(4));
        for (int what : new int[] {-1, 11, MOST, LEAST}) {
            Due.is("count wrong", x.count(what), BAD);
        }
    }
}
