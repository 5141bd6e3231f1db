/** Promises 32 to 40: sheets, slots. */
public final class SheetsTest {
    private static final int BAD = WordLeash.BAD, NONE = WordLeash.NONE, NOTHING = WordLeash.NOTHING;
    private static final int KIND = WordLeash.KIND, INDEX = WordLeash.INDEX, SIZE = WordLeash.SIZE;
    private static final int MOST = Integer.MAX_VALUE, LEAST = Integer.MIN_VALUE;

    public static void main(String[] args) {
        promise32();
        markOfShorts();
        markOfFloats();
        promise34();
        promise35();
        copyOfOthers();
        copyWithin();
        copyRefuses();
        promise37();
        promise38();
        promise39();
        promise40();
        Due.end("SheetsTest");
    }

    private static int[] places(WordLeash x, int sheet, int n) {
        int[] places = new int[n];
        x.lay(4, 2, sheet);
        for (int i = 0; i < n; i++) {
            places[i] = x.item(4, i);
        }
        return places;
    }

    private static void arePlaces(String what, WordLeash x, int sheet, int... due) {
        int[] got = places(x, sheet, due.length);
        for (int i = 0; i < due.length; i++) {
            Due.is(what + ", place " + i, got[i], due[i]);
        }
        Due.is(what + ", beyond", x.item(4, due.length), INDEX);
    }

    private static WordLeash withRow(int sort, int... row) {
        WordLeash x = new WordLeash();
        fill(x, 0, sort, row);
        return x;
    }

    private static void fill(WordLeash x, int sheet, int sort, int... row) {
        x.sheet(sheet, sort, row.length);
        for (int i = 0; i < row.length; i++) {
            x.mark(sheet, i, row[i]);
        }
    }

    private static void promise32() {
        WordLeash x = new WordLeash();
        Due.is("24 shorts", x.sheet(3, 0, 24), 24);
        Due.is("its last place", x.mark(3, 23, 7), 1);
        Due.is("no place behind it", x.mark(3, 24, 7), INDEX);
        Due.is("24 floats", x.sheet(3, 1, 24), 24);
        arePlaces("all 0", x, 3, new int[24]);
        Due.is("no places", x.sheet(3, 0, 0), 0);
        Due.is("no place at all", x.mark(3, 0, 7), INDEX);
        Due.is("MISSING", x.sheet(3, -1, 5), 0);
        Due.is("is MISSING", x.mark(3, 0, 7), NOTHING);
        Due.is("MISSING, n is any", x.sheet(0, -1, 25), 0);
        Due.is("MISSING, n is any, below 0, too", x.sheet(0, -1, LEAST), 0);
        x.sheet(1, 0, 2);
        int[][] bad = {
            {-1, 0, 1}, {4, 0, 1}, {1, -2, 1}, {1, 2, 1}, {1, 0, 25}, {1, 1, MOST}, {4, -1, 1}, {4, 0, -1}, {1, 2, -1},
            {MOST, 0, 1}, {LEAST, 0, 1}, {1, MOST, 1}, {1, LEAST, 1}};
        for (int[] w : bad) {
            Due.is("sheet wrong", x.sheet(w[0], w[1], w[2]), BAD);
        }
        Due.is("SIZE of shorts", x.sheet(1, 0, -1), SIZE);
        Due.is("SIZE of floats", x.sheet(1, 1, LEAST), SIZE);
        Due.is("it stays as it was", x.mark(1, 1, 70000), 1);
        arePlaces("it stays as it was", x, 1, 0, 4464);
    }

    private static void markOfShorts() {
        WordLeash x = new WordLeash();
        Due.is("MISSING", x.mark(0, 0, 1), NOTHING);
        x.sheet(0, 0, 3);
        int[][] due = {
            {0, 0}, {32767, 32767}, {32768, -32768}, {-32769, 32767}, {65535, -1}, {65536, 0}, {-1, -1}, {MOST, -1},
            {LEAST, 0}, {100000, -31072}, {NONE + 1, (short) (NONE + 1)}, {BAD, (short) BAD}};
        for (int[] d : due) {
            Due.is("mark " + d[0], x.mark(0, 1, d[0]), 1);
            Due.is("place then", places(x, 0, 3)[1], d[1]);
        }
        Due.is("NONE", x.mark(0, 1, NONE), KIND);
        Due.is("NONE where no place is", x.mark(0, 3, NONE), INDEX);
        for (int place : new int[] {-1, 3, MOST, LEAST}) {
            Due.is("no such place", x.mark(0, place, 1), INDEX);
        }
        for (int sheet : new int[] {-1, 4, MOST, LEAST}) {
            Due.is("no such sheet", x.mark(sheet, 0, 1), BAD);
        }
        arePlaces("the others stay", x, 0, 0, (short) BAD, 0);
    }

    private static void markOfFloats() {
        WordLeash x = new WordLeash();
        x.sheet(2, 1, 2);
        Due.is("the highest", x.mark(2, 0, 99999), 1);
        Due.is("the lowest", x.mark(2, 1, -99999), 1);
        arePlaces("marked", x, 2, 99999, -99999);
        for (int v : new int[] {100000, -100000, MOST, LEAST, NONE + 1, NONE - 1}) {
            Due.is("too much", x.mark(2, 0, v), BAD);
            Due.is("too much where no place is", x.mark(2, 2, v), INDEX);
        }
        Due.is("NO NUMBER", x.mark(2, 0, NONE), 1);
        arePlaces("NO NUMBER", x, 2, KIND, -99999);
        Due.is("a number again", x.mark(2, 0, 5), 1);
        arePlaces("a number again", x, 2, 5, -99999);
    }

    private static void promise34() {
        WordLeash x = withRow(0, 5, 300, -7, 8);
        for (int i = 0; i < 3; i++) {
            x.word(0, 1, 8, 1);
        }
        Due.is("three are otherwise", x.pour(0), 3);
        Due.is("DUTY", x.told(0, 2), 5);
        Due.is("DUTY at most", x.told(1, 2), 99);
        Due.is("DUTY at least", x.told(2, 2), 0);
        Due.is("none is otherwise", x.pour(0), 0);
        fill(x, 1, 1, NONE, 7);
        Due.is("one is otherwise", x.pour(1), 1);
        Due.is("NO NUMBER: it stays", x.told(0, 2), 5);
        Due.is("a float", x.told(1, 2), 7);
        Due.is("beyond the SHEET: it stays", x.told(2, 2), 0);
        fill(x, 1, 0, 5, 8, 0);
        Due.is("only those that are otherwise", x.pour(1), 1);
        x.sheet(1, 0, 0);
        Due.is("no places", x.pour(1), 0);
        Due.is("MISSING", x.pour(2), NOTHING);
        for (int sheet : new int[] {-1, 4, MOST, LEAST}) {
            Due.is("pour wrong", x.pour(sheet), BAD);
        }
    }

    private static void promise35() {
        WordLeash x = withRow(0, 1, 0, 1);
        for (int i = 0; i < 3; i++) {
            x.word(0, 1, 8, 1);
        }
        x.traveller();
        x.cross(0, 5);
        Due.is("as they are", x.reads(0), NONE);
        x.mark(0, 2, 0);
        Due.is("not at 2", x.reads(0), 2);
        x.mark(0, 1, 1);
        Due.is("not at 1 first", x.reads(0), 1);
        fill(x, 1, 1, NONE, NONE, 1, NONE, NONE);
        Due.is("only numbers", x.reads(1), NONE);
        x.mark(1, 4, 0);
        Due.is("no WORD is there", x.reads(1), 4);
        x.sheet(1, 1, 0);
        Due.is("no places", x.reads(1), NONE);
        x.sheet(1, 0, 2);
        Due.is("more WORDS than places", x.reads(1), 0);
        Due.is("MISSING", x.reads(3), NOTHING);
        for (int sheet : new int[] {-1, 4, MOST, LEAST}) {
            Due.is("reads wrong", x.reads(sheet), BAD);
        }
    }

    private static void copyOfOthers() {
        WordLeash x = withRow(1, 1, NONE, 3, 4);
        fill(x, 1, 1, 5, 6, 7);
        Due.is("two", x.copy(0, 1, 1, 1, 2), 2);
        arePlaces("to", x, 1, 5, KIND, 3);
        arePlaces("from", x, 0, 1, KIND, 3, 4);
        Due.is("all", x.copy(1, 0, 0, 1, 3), 3);
        arePlaces("all", x, 0, 1, 5, KIND, 3);
        Due.is("none at the ends", x.copy(0, 4, 1, 3, 0), 0);
        Due.is("none in the midst", x.copy(0, 0, 1, 1, 0), 0);
        x.sheet(2, 1, 0);
        Due.is("none of none", x.copy(2, 0, 2, 0, 0), 0);
        arePlaces("not otherwise", x, 1, 5, KIND, 3);
    }

    private static void copyWithin() {
        WordLeash x = withRow(0, 1, 2, 3, 4, 5);
        Due.is("up", x.copy(0, 0, 0, 1, 4), 4);
        arePlaces("up", x, 0, 1, 1, 2, 3, 4);
        Due.is("down", x.copy(0, 1, 0, 0, 4), 4);
        arePlaces("down", x, 0, 1, 2, 3, 4, 4);
        Due.is("in place", x.copy(0, 0, 0, 0, 5), 5);
        arePlaces("in place", x, 0, 1, 2, 3, 4, 4);
    }

    private static void copyRefuses() {
        WordLeash x = withRow(0, 1, 2, 3);
        fill(x, 1, 0, 4, 5);
        x.sheet(2, 1, 3);
        int[][] bad = {{-1, 0, 0, 0, 0}, {4, 0, 0, 0, 0}, {0, 0, -1, 0, 0}, {0, 0, 4, 0, 0}, {3, 0, 4, 0, 0},
            {4, 0, 3, 9, 9}, {MOST, 0, 0, 0, 0}, {0, 0, LEAST, 0, 0}};
        refused(x, bad, BAD);
        refused(x, new int[][] {{3, 0, 0, 0, 0}, {0, 0, 3, 0, 0}, {3, 9, 2, 9, -1}, {3, 0, 3, 0, 0}}, NOTHING);
        refused(x, new int[][] {{0, 0, 2, 0, 1}, {2, 0, 0, 0, 0}, {2, 9, 0, -1, -1}}, KIND);
        int[][] index = {{0, 0, 1, 0, -1}, {0, -1, 1, 0, 1}, {0, 0, 1, -1, 1}, {0, 0, 1, 0, 3}, {1, 0, 0, 0, 3},
            {0, 4, 1, 0, 0}, {0, 0, 1, 3, 0}, {0, 2, 1, 0, 2}, {0, 0, 1, 1, 2}, {0, MOST, 1, 0, 1}, {0, 0, 1, MOST, 1},
            {0, 1, 1, 1, MOST}, {0, LEAST, 1, 0, LEAST}, {0, 1, 1, 0, LEAST}, {0, -1, 1, 0, 0}};
        refused(x, index, INDEX);
        arePlaces("the first stays", x, 0, 1, 2, 3);
        arePlaces("the second stays", x, 1, 4, 5);
        arePlaces("the third stays", x, 2, 0, 0, 0);
    }

    private static void refused(WordLeash x, int[][] calls, int due) {
        for (int[] c : calls) {
            String call = "copy(" + c[0] + ", " + c[1] + ", " + c[2] + ", " + c[3] + ", " + c[4] + ")";
            Due.is(call, x.copy(c[0], c[1], c[2], c[3], c[4]), due);
        }
    }

    private static void promise37() {
        WordLeash x = withRow(0, 1, 2);
        x.word(0, 1, 8, 1);
        Due.is("held nothing", x.lay(0, 1, 0), 0);
        Due.is("held a WORD", x.lay(0, 2, 0), 1);
        Due.is("held a SHEET", x.lay(0, 3, LEAST), 2);
        Due.is("held a number", x.lay(0, 0, MOST), 3);
        Due.is("holds nothing", x.rest(0, 1), NOTHING);
        Due.is("MISSING", x.lay(0, 2, 3), NOTHING);
        int[][] bad = {{-1, 0, 0}, {5, 0, 0}, {0, -1, 0}, {0, 4, 0}, {0, 1, 1}, {0, 1, -1}, {0, 2, -1}, {0, 2, 4},
            {5, 2, 3}, {MOST, 0, 0}, {LEAST, 0, 0}, {0, MOST, 0}, {0, LEAST, 0}, {0, 1, MOST}, {0, 2, LEAST}};
        for (int[] w : bad) {
            Due.is("lay wrong", x.lay(w[0], w[1], w[2]), BAD);
        }
        Due.is("holds nothing still", x.lay(0, 3, 7), 0);
        Due.is("lay wrong again", x.lay(0, 1, 1), BAD);
        Due.is("MISSING again", x.lay(0, 2, 3), NOTHING);
        Due.is("holds the number still", x.rest(0, 5), 2);
        for (int slot = 1; slot < 5; slot++) {
            Due.is("the other slots hold nothing", x.lay(slot, 0, 0), 0);
        }
    }

    private static void promise38() {
        WordLeash x = withRow(0, 1, 2);
        int[] worths = {30, 36, 69, 72, 64, 7};
        int[] under = {1, 1 | 2, 1 | 4, 1 | 2 | 8, 1 | 4 | 16, 1 | 32};
        for (int word = 0; word < 6; word++) {
            x.word(word, 127, 30, 2);
            x.lay(0, 1, word);
            for (int kind = 0; kind < 6; kind++) {
                int due = (under[word] >> kind & 1) == 1 ? worths[word] : KIND;
                Due.is("a " + word + " taken for a " + kind, x.ask(0, kind), due);
            }
        }
        x.keep();
        x.lay(1, 1, 3);
        x.turns(3, 2);
        x.set(3, 2, 99);
        x.set(5, 1, 1);
        Due.is("as it was then", x.ask(1, 1), 72);
        Due.is("of its KIND then", x.ask(1, 2), KIND);
        Due.is("FREE as it was then", x.ask(0, 5), 7);
        x.back();
        Due.is("an image leaves it", x.ask(1, 3), 72);
        x.lay(2, 2, 0);
        x.lay(3, 3, 5);
        Due.is("a SHEET is no WORD", x.ask(2, 0), KIND);
        Due.is("a number is no WORD", x.ask(3, 0), KIND);
        Due.is("nothing", x.ask(4, 0), NOTHING);
        int[][] bad = {{-1, 0}, {5, 0}, {0, -1}, {0, 6}, {4, 6}, {MOST, 0}, {LEAST, 0}, {0, MOST}, {0, LEAST}};
        for (int[] w : bad) {
            Due.is("ask wrong", x.ask(w[0], w[1]), BAD);
        }
    }

    private static void promise39() {
        WordLeash x = withRow(1, 1, NONE, 3);
        x.word(0, 1, 8, 1);
        x.lay(0, 2, 0);
        x.mark(0, 0, 9);
        x.sheet(0, -1, 0);
        Due.is("as it was then", x.item(0, 0), 1);
        Due.is("NO NUMBER", x.item(0, 1), KIND);
        Due.is("its last", x.item(0, 2), 3);
        for (int place : new int[] {-1, 3, MOST, LEAST}) {
            Due.is("no such place", x.item(0, place), INDEX);
        }
        x.lay(1, 1, 0);
        x.lay(2, 3, 5);
        Due.is("a WORD is no SHEET", x.item(1, 0), KIND);
        Due.is("a number is no SHEET", x.item(2, -1), KIND);
        Due.is("nothing", x.item(3, 0), NOTHING);
        Due.is("slot below", x.item(-1, 0), BAD);
        Due.is("slot above", x.item(5, 0), BAD);
        fill(x, 0, 0, 4);
        x.lay(3, 2, 0);
        fill(x, 0, 0, 5);
        x.lay(4, 2, 0);
        Due.is("a row of its own", x.item(3, 0), 4);
        Due.is("and another one", x.item(4, 0), 5);
        Due.is("as long as then", x.item(4, 1), INDEX);
    }

    private static void promise40() {
        WordLeash x = withRow(1, 1);
        x.word(0, 1, 8, 1);
        x.lay(0, 3, -11);
        int[][] due = {{4, -3}, {-4, -3}, {11, 0}, {1, 0}, {-1, 0}, {MOST, -11}, {LEAST, -11}, {0, WordLeash.NO}};
        for (int[] d : due) {
            Due.is("-11 by " + d[0], x.rest(0, d[0]), d[1]);
        }
        x.lay(0, 3, LEAST);
        Due.is("the least by -1", x.rest(0, -1), 0);
        Due.is("the least by 10", x.rest(0, 10), -8);
        x.lay(1, 1, 0);
        x.lay(2, 2, 0);
        Due.is("a WORD is no number", x.rest(1, 0), KIND);
        Due.is("a SHEET is no number", x.rest(2, 5), KIND);
        Due.is("nothing", x.rest(3, 0), NOTHING);
        Due.is("slot below", x.rest(-1, 1), BAD);
        Due.is("slot above", x.rest(5, 0), BAD);
    }
}
