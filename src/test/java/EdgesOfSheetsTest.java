/** The bounds that "Terms" names in section 5: sheets, slots, findings. */
public final class EdgesOfSheetsTest {
    private static final int BAD = WordLeash.BAD, NO = WordLeash.NO, NONE = WordLeash.NONE;
    private static final int NOTHING = WordLeash.NOTHING, KIND = WordLeash.KIND, INDEX = WordLeash.INDEX;
    private static final int SIZE = WordLeash.SIZE, MOST = Integer.MAX_VALUE, LEAST = Integer.MIN_VALUE;
    private static final int SHORTS = 0, FLOATS = 1;

    public static void main(String[] args) {
        sheetsAre0To3();
        sheetsAreMissingAtFirst();
        placesAre0To24();
        aNumberOfPlacesBelow0IsASize();
        missingAgain();
        aRowAnewIsAll0();
        placesFrom0ToTheLast();
        shortsKeepTheLowest16Bits();
        floatsAreWithin99999();
        onlyFloatsHaveNoNumber();
        theFirstFindingStands();
        pourHoldsWithin0And99();
        pourLeavesNoNumberAndWhatIsBeyond();
        pourCountsWhatIsOtherwise();
        readsTheFirstThatIsNot();
        readsPlacesThatAreNoWord();
        readsNumbersAlone();
        copyTakesAsManyAsThereAre();
        copyOfNoneAtTheEnds();
        copyOverItself();
        copyTakesNoNumberAsItIs();
        slotsAre0To4();
        slotsHoldNothingAtFirst();
        layTellsWhatItHeld();
        aWordInASlotIsAsItWas();
        aSheetInASlotIsARowOfItsOwn();
        askedForAnotherKind();
        itemsFrom0ToTheLast();
        restAsJavas();
        Due.end("EdgesOfSheetsTest");
    }

    private static WordLeash withRow(int sort, int... row) {
        WordLeash x = new WordLeash();
        fill(x, 0, sort, row);
        return x;
    }

    private static void fill(WordLeash x, int sheet, int sort, int... row) {
        x.sheet(sheet, sort, row.length);
        for (int i = 0; i < row.length; i++) {
            x.mark(sheet, i, row[i]);
        }
    }

    private static void isRow(String what, WordLeash x, int sheet, int... due) {
        x.lay(4, 2, sheet);
        for (int i = 0; i < due.length; i++) {
            Due.is(what + ", place " + i, x.item(4, i), due[i]);
        }
        Due.is(what + ", no place behind", x.item(4, due.length), INDEX);
        Due.is(what + ", no place ahead", x.item(4, -1), INDEX);
    }

    private static void words(WordLeash x, int... duties) {
        for (int duty : duties) {
            x.word(0, 1, duty, 9);
        }
    }

    private static void sheetsAre0To3() {
        WordLeash x = new WordLeash();
        words(x, 5);
        for (int sheet : new int[] {-1, 4, MOST, LEAST}) {
            Due.is("sheet", x.sheet(sheet, SHORTS, 1), BAD);
            Due.is("mark", x.mark(sheet, 0, 1), BAD);
            Due.is("pour", x.pour(sheet), BAD);
            Due.is("reads", x.reads(sheet), BAD);
            Due.is("copy from", x.copy(sheet, 0, 0, 0, 0), BAD);
            Due.is("copy to", x.copy(0, 0, sheet, 0, 0), BAD);
            Due.is("lay", x.lay(0, 2, sheet), BAD);
            Due.is("quota", x.quota(sheet, 0, 0), BAD);
        }
        for (int sheet = 0; sheet < 4; sheet++) {
            Due.is("sheet", x.sheet(sheet, SHORTS, 1), 1);
            Due.is("mark", x.mark(sheet, 0, sheet), 1);
        }
        for (int sheet = 0; sheet < 4; sheet++) {
            isRow("each has its own", x, sheet, sheet);
        }
    }

    private static void sheetsAreMissingAtFirst() {
        for (int sheet = 0; sheet < 4; sheet++) {
            isMissing(new WordLeash(), sheet);
        }
    }

    private static void isMissing(WordLeash x, int sheet) {
        words(x, 5);
        Due.is("mark", x.mark(sheet, 0, 1), NOTHING);
        Due.is("pour", x.pour(sheet), NOTHING);
        Due.is("reads", x.reads(sheet), NOTHING);
        Due.is("lay", x.lay(0, 2, sheet), NOTHING);
        Due.is("quota", x.quota(sheet, 0, 0), NOTHING);
        Due.is("copy of it", x.copy(sheet, 0, sheet, 0, 0), NOTHING);
        int other = (sheet + 1) % 4;
        x.sheet(other, SHORTS, 1);
        Due.is("copy from it", x.copy(sheet, 0, other, 0, 0), NOTHING);
        Due.is("copy to it", x.copy(other, 0, sheet, 0, 0), NOTHING);
    }

    private static void placesAre0To24() {
        for (int sort = SHORTS; sort <= FLOATS; sort++) {
            for (int n = 0; n <= 24; n++) {
                WordLeash x = new WordLeash();
                Due.is("places", x.sheet(0, sort, n), n);
                isRow("of 0", x, 0, new int[n]);
            }
            for (int n : new int[] {25, 26, 256, 65536, MOST}) {
                WordLeash x = withRow(sort, 7);
                Due.is("too many", x.sheet(0, sort, n), BAD);
                isRow("it stays", x, 0, 7);
            }
        }
        for (int sort : new int[] {-2, 2, MOST, LEAST}) {
            WordLeash x = withRow(SHORTS, 7);
            Due.is("no sort", x.sheet(0, sort, 1), BAD);
            isRow("it stays", x, 0, 7);
        }
    }

    private static void aNumberOfPlacesBelow0IsASize() {
        for (int sort = SHORTS; sort <= FLOATS; sort++) {
            for (int n : new int[] {-1, -2, -24, -25, LEAST}) {
                WordLeash x = withRow(sort, 7);
                Due.is("SIZE", x.sheet(0, sort, n), SIZE);
                isRow("it stays", x, 0, 7);
                Due.is("SIZE of a MISSING one", x.sheet(1, sort, n), SIZE);
                Due.is("it stays MISSING", x.reads(1), NOTHING);
            }
        }
    }

    private static void missingAgain() {
        for (int n : new int[] {0, 1, 24, 25, -1, MOST, LEAST}) {
            for (int sort = SHORTS; sort <= FLOATS; sort++) {
                WordLeash x = withRow(sort, 7, 8);
                Due.is("MISSING", x.sheet(0, -1, n), 0);
                isMissing(x, 0);
            }
        }
    }

    private static void aRowAnewIsAll0() {
        WordLeash x = withRow(FLOATS, 1, 2, NONE, 4, 5);
        x.sheet(0, FLOATS, 5);
        isRow("anew", x, 0, 0, 0, 0, 0, 0);
        fill(x, 0, FLOATS, 1, 2, NONE, 4, 5);
        x.sheet(0, SHORTS, 3);
        isRow("shorter, of shorts", x, 0, 0, 0, 0);
        x.sheet(0, FLOATS, 5);
        isRow("longer again", x, 0, 0, 0, 0, 0, 0);
    }

    private static void placesFrom0ToTheLast() {
        for (int n = 0; n <= 24; n++) {
            for (int sort = SHORTS; sort <= FLOATS; sort++) {
                WordLeash x = new WordLeash();
                x.sheet(0, sort, n);
                for (int place : new int[] {-1, n, n + 1, 24, 25, MOST, LEAST}) {
                    Due.is("mark " + place + " of " + n, x.mark(0, place, 1), place == 24 && n > 24 ? 1 : INDEX);
                }
                if (n > 0) {
                    Due.is("the first", x.mark(0, 0, 1), 1);
                    Due.is("the last", x.mark(0, n - 1, 2), 1);
                }
            }
        }
    }

    private static void shortsKeepTheLowest16Bits() {
        WordLeash x = new WordLeash();
        x.sheet(0, SHORTS, 1);
        int[] values = {0, 1, -1, 32767, 32768, 32769, -32768, -32769, 65535, 65536, 65537, -65536, 99999, 100000, MOST,
            LEAST, NONE - 1, NONE + 1, BAD};
        for (int v : values) {
            Due.is("mark " + v, x.mark(0, 0, v), 1);
            int low = Math.floorMod(v, 65536);
            isRow("" + v, x, 0, low > 32767 ? low - 65536 : low);
        }
    }

    private static void floatsAreWithin99999() {
        for (int v : new int[] {100000, -100000, 100001, MOST, LEAST, NONE - 1, NONE + 1, BAD, NO}) {
            WordLeash x = withRow(FLOATS, 7);
            Due.is("mark " + v, x.mark(0, 0, v), BAD);
            isRow("it stays", x, 0, 7);
        }
        for (int v : new int[] {99999, -99999, 99998, 0, -1, 32768, 65536}) {
            WordLeash x = withRow(FLOATS, 7);
            Due.is("mark " + v, x.mark(0, 0, v), 1);
            isRow("" + v, x, 0, v);
        }
    }

    private static void onlyFloatsHaveNoNumber() {
        WordLeash x = withRow(SHORTS, 7);
        Due.is("in shorts", x.mark(0, 0, NONE), KIND);
        isRow("it stays", x, 0, 7);
        x = withRow(FLOATS, 7);
        Due.is("in floats", x.mark(0, 0, NONE), 1);
        isRow("NO NUMBER", x, 0, KIND);
        Due.is("twice", x.mark(0, 0, NONE), 1);
        Due.is("a number again", x.mark(0, 0, 0), 1);
        isRow("a number", x, 0, 0);
    }

    private static void theFirstFindingStands() {
        WordLeash x = withRow(SHORTS, 7);
        fill(x, 1, FLOATS, 7);
        Due.is("BAD ahead of all", x.mark(4, 9, NONE), BAD);
        Due.is("NOTHING ahead of INDEX", x.mark(2, 9, NONE), NOTHING);
        Due.is("INDEX ahead of KIND", x.mark(0, 1, NONE), INDEX);
        Due.is("INDEX ahead of BAD", x.mark(1, 1, 100000), INDEX);
        Due.is("BAD ahead of SIZE: sheet", x.sheet(4, SHORTS, -1), BAD);
        Due.is("BAD ahead of SIZE: sort", x.sheet(0, 2, -1), BAD);
        Due.is("BAD ahead of NOTHING", x.copy(2, 0, 4, 0, 0), BAD);
        Due.is("NOTHING ahead of KIND and INDEX", x.copy(0, 9, 2, 9, 9), NOTHING);
        Due.is("KIND ahead of INDEX", x.copy(0, 9, 1, 9, 9), KIND);
        Due.is("BAD ahead of NOTHING: word", x.quota(2, 0, 0), BAD);
        Due.is("BAD ahead of NOTHING: slot", x.lay(5, 2, 2), BAD);
        x.lay(1, 3, 7);
        x.lay(2, 2, 1);
        Due.is("BAD ahead of NOTHING: kind", x.ask(0, 6), BAD);
        Due.is("BAD ahead of KIND", x.ask(1, 6), BAD);
        Due.is("NOTHING ahead of INDEX, slot", x.item(0, -1), NOTHING);
        Due.is("KIND ahead of INDEX, slot", x.item(1, -1), KIND);
        Due.is("BAD ahead of NO", x.rest(5, 0), BAD);
        Due.is("NOTHING ahead of NO", x.rest(0, 0), NOTHING);
        Due.is("KIND ahead of NO", x.rest(2, 0), KIND);
        Due.is("NO", x.rest(1, 0), NO);
    }

    private static void pourHoldsWithin0And99() {
        int[] told = {0, 99, 100, -1, 32767, -32768, 98, 1};
        int[] due = {0, 99, 99, 0, 99, 0, 98, 1};
        for (int sort = SHORTS; sort <= FLOATS; sort++) {
            WordLeash x = withRow(sort, told);
            words(x, 50, 50, 50, 50, 50, 50, 50, 50);
            Due.is("all are otherwise", x.pour(0), 8);
            for (int i = 0; i < due.length; i++) {
                Due.is("DUTY by " + told[i], x.told(i, 2), due[i]);
            }
        }
        WordLeash x = withRow(FLOATS, 99999, -99999);
        words(x, 50, 50);
        Due.is("both are otherwise", x.pour(0), 2);
        Due.is("the most", x.told(0, 2), 99);
        Due.is("the least", x.told(1, 2), 0);
    }

    private static void pourLeavesNoNumberAndWhatIsBeyond() {
        WordLeash x = withRow(FLOATS, NONE, 5, NONE);
        words(x, 50, 50, 50, 50);
        Due.is("one is otherwise", x.pour(0), 1);
        int[] due = {50, 5, 50, 50};
        for (int i = 0; i < 4; i++) {
            Due.is("DUTY", x.told(i, 2), due[i]);
        }
        x.sheet(0, SHORTS, 0);
        Due.is("no places", x.pour(0), 0);
        x.sheet(0, SHORTS, 24);
        Due.is("more places than WORDS", x.pour(0), 4);
        Due.is("without WORDS", withRow(SHORTS, 1, 2, 3).pour(0), 0);
    }

    private static void pourCountsWhatIsOtherwise() {
        WordLeash x = withRow(SHORTS, 99, 0, 50, 51);
        words(x, 99, 0, 50, 50);
        Due.is("only one is otherwise", x.pour(0), 1);
        Due.is("none is", x.pour(0), 0);
        x.set(0, 2, 98);
        x.set(1, 2, 1);
        fill(x, 0, SHORTS, 500, -500, 50, 51);
        Due.is("held ones are otherwise", x.pour(0), 2);
        Due.is("held ones are as they were", x.pour(0), 0);
    }

    private static void readsTheFirstThatIsNot() {
        WordLeash x = withRow(SHORTS, 1, 0, 1);
        words(x, 1, 1, 1);
        x.traveller();
        x.cross(0, 5);
        Due.is("all are", x.reads(0), NONE);
        for (int place = 2; place >= 0; place--) {
            x.mark(0, place, 7);
            Due.is("the first", x.reads(0), place);
        }
        x.sheet(0, SHORTS, 0);
        Due.is("no places", x.reads(0), NONE);
        x.sheet(0, SHORTS, 1);
        Due.is("0 is not 1", x.reads(0), 0);
        x.mark(0, 0, -1);
        Due.is("-1 is not 1", x.reads(0), 0);
        x.mark(0, 0, 65537);
        Due.is("16 bits that are 1", x.reads(0), NONE);
    }

    private static void readsPlacesThatAreNoWord() {
        WordLeash x = withRow(SHORTS, 0, 0);
        Due.is("without WORDS", x.reads(0), 0);
        words(x, 1);
        Due.is("one WORD", x.reads(0), 1);
        words(x, 1);
        Due.is("two WORDS", x.reads(0), NONE);
        x.deal(8);
        x.sheet(0, SHORTS, 10);
        Due.is("ten WORDS", x.reads(0), NONE);
        x.sheet(0, SHORTS, 11);
        Due.is("place 10 is no WORD", x.reads(0), 10);
    }

    private static void readsNumbersAlone() {
        int[] none = new int[24];
        java.util.Arrays.fill(none, NONE);
        WordLeash x = withRow(FLOATS, none);
        Due.is("no numbers", x.reads(0), NONE);
        x.mark(0, 23, 0);
        Due.is("the last place", x.reads(0), 23);
        words(x, 1);
        x.mark(0, 23, NONE);
        Due.is("no numbers beside a WORD", x.reads(0), NONE);
        x.mark(0, 0, 1);
        Due.is("the first place", x.reads(0), 0);
    }

    private static void copyTakesAsManyAsThereAre() {
        for (int n = 0; n <= 5; n++) {
            for (int from = -1; from <= 6; from++) {
                for (int at = -1; at <= 4; at++) {
                    WordLeash x = withRow(SHORTS, 1, 2, 3, 4, 5);
                    fill(x, 1, SHORTS, 6, 7, 8);
                    boolean fits = from >= 0 && at >= 0 && from + n <= 5 && at + n <= 3;
                    Due.is(n + " from " + from + " to " + at, x.copy(0, from, 1, at, n), fits ? n : INDEX);
                    int[] due = {6, 7, 8};
                    for (int i = 0; fits && i < n; i++) {
                        due[at + i] = from + i + 1;
                    }
                    isRow("to", x, 1, due);
                    isRow("from", x, 0, 1, 2, 3, 4, 5);
                }
            }
        }
    }

    private static void copyOfNoneAtTheEnds() {
        WordLeash x = withRow(SHORTS, 1, 2);
        x.sheet(1, SHORTS, 0);
        Due.is("none to none", x.copy(0, 2, 1, 0, 0), 0);
        Due.is("none from none", x.copy(1, 0, 0, 2, 0), 0);
        Due.is("none beyond", x.copy(0, 3, 1, 0, 0), INDEX);
        Due.is("none to beyond", x.copy(0, 0, 1, 1, 0), INDEX);
        Due.is("fewer than none", x.copy(0, 1, 0, 1, -1), INDEX);
        Due.is("one from none", x.copy(1, 0, 0, 0, 1), INDEX);
        for (int far : new int[] {MOST, LEAST, MOST - 1, LEAST + 1}) {
            Due.is("from far", x.copy(0, far, 0, 0, 1), INDEX);
            Due.is("to far", x.copy(0, 0, 0, far, 1), INDEX);
            Due.is("far too many", x.copy(0, 1, 0, 1, far), INDEX);
            Due.is("far beyond", x.copy(0, far, 0, far, far), INDEX);
        }
        isRow("it stays", x, 0, 1, 2);
    }

    private static void copyOverItself() {
        for (int from = 0; from <= 3; from++) {
            for (int at = 0; at <= 3; at++) {
                WordLeash x = withRow(FLOATS, 1, 2, 3, NONE, 5, 6);
                int[] due = {1, 2, 3, KIND, 5, 6};
                int[] was = due.clone();
                System.arraycopy(was, from, due, at, 3);
                Due.is("three", x.copy(0, from, 0, at, 3), 3);
                isRow("from " + from + " to " + at, x, 0, due);
            }
        }
    }

    private static void copyTakesNoNumberAsItIs() {
        WordLeash x = withRow(FLOATS, NONE, 5);
        fill(x, 1, FLOATS, 1, NONE);
        Due.is("two", x.copy(0, 0, 1, 0, 2), 2);
        isRow("to", x, 1, KIND, 5);
        Due.is("of shorts to floats", withBoth().copy(0, 0, 1, 0, 1), KIND);
        Due.is("of floats to shorts", withBoth().copy(1, 0, 0, 0, 1), KIND);
        Due.is("none of them", withBoth().copy(1, 0, 0, 0, 0), KIND);
    }

    private static WordLeash withBoth() {
        WordLeash x = withRow(SHORTS, 1);
        fill(x, 1, FLOATS, 1);
        return x;
    }

    private static void slotsAre0To4() {
        WordLeash x = new WordLeash();
        for (int slot : new int[] {-1, 5, MOST, LEAST}) {
            Due.is("lay", x.lay(slot, 0, 0), BAD);
            Due.is("lay a number", x.lay(slot, 3, 0), BAD);
            Due.is("ask", x.ask(slot, 0), BAD);
            Due.is("item", x.item(slot, 0), BAD);
            Due.is("rest", x.rest(slot, 1), BAD);
        }
        for (int slot = 0; slot < 5; slot++) {
            Due.is("lay", x.lay(slot, 3, 10 + slot), 0);
        }
        for (int slot = 0; slot < 5; slot++) {
            Due.is("each has its own", x.rest(slot, 100), 10 + slot);
        }
    }

    private static void slotsHoldNothingAtFirst() {
        WordLeash x = new WordLeash();
        for (int slot = 0; slot < 5; slot++) {
            Due.is("ask", x.ask(slot, 0), NOTHING);
            Due.is("item", x.item(slot, 0), NOTHING);
            Due.is("rest", x.rest(slot, 1), NOTHING);
            Due.is("lay", x.lay(slot, 0, MOST), 0);
            Due.is("lay again", x.lay(slot, 0, LEAST), 0);
        }
    }

    private static void layTellsWhatItHeld() {
        for (int first = 0; first <= 3; first++) {
            for (int second = 0; second <= 3; second++) {
                WordLeash x = withRow(SHORTS, 7);
                words(x, 30);
                Due.is("held nothing", x.lay(0, first, 0), 0);
                Due.is("held " + first, x.lay(0, second, 0), first);
                Due.is("ask", x.ask(0, 0), second == 0 ? NOTHING : second == 1 ? 30 : KIND);
                Due.is("item", x.item(0, 0), second == 0 ? NOTHING : second == 2 ? 7 : KIND);
                Due.is("rest", x.rest(0, 5), second == 0 ? NOTHING : second == 3 ? 0 : KIND);
            }
        }
        WordLeash x = withRow(SHORTS, 7);
        for (int thing : new int[] {-1, 4, MOST, LEAST}) {
            Due.is("no such thing", x.lay(0, thing, 0), BAD);
        }
        for (int word : new int[] {0, -1, 10, MOST, LEAST}) {
            Due.is("no such WORD", x.lay(0, 1, word), BAD);
        }
        for (int number : new int[] {MOST, LEAST, NONE, -1}) {
            x.lay(0, 3, number);
            Due.is("any number", x.rest(0, 1000), number % 1000);
        }
    }

    private static void aWordInASlotIsAsItWas() {
        WordLeash x = new WordLeash();
        x.keep();
        x.word(3, 7, 30, 9);
        x.word(5, 7, 30, 9);
        x.lay(0, 1, 0);
        x.lay(1, 1, 1);
        x.turns(0, 4);
        x.turns(1, 0);
        x.set(0, 2, 99);
        x.set(1, 1, 255);
        Due.is("its DUTY and KIND then", x.ask(0, 3), 72);
        Due.is("its KIND then", x.ask(0, 4), KIND);
        Due.is("its SENSES then", x.ask(1, 5), 3);
        x.back();
        Due.is("no WORDS any more", x.count(0), 0);
        Due.is("for good", x.ask(0, 1), 72);
        Due.is("for good, too", x.ask(1, 0), 3);
    }

    private static void aSheetInASlotIsARowOfItsOwn() {
        WordLeash x = withRow(FLOATS, 7, NONE);
        x.lay(0, 2, 0);
        x.mark(0, 0, 8);
        x.mark(0, 1, 9);
        Due.is("as it was", x.item(0, 0), 7);
        Due.is("NO NUMBER as it was", x.item(0, 1), KIND);
        x.lay(1, 2, 0);
        x.sheet(0, -1, 0);
        Due.is("still", x.item(0, 0), 7);
        Due.is("another one", x.item(1, 0), 8);
        Due.is("another one's second", x.item(1, 1), 9);
        x.sheet(0, SHORTS, 24);
        Due.is("as long as it was", x.item(0, 2), INDEX);
    }

    private static void askedForAnotherKind() {
        boolean[][] is = new boolean[6][6];
        int[] above = {0, 0, 0, 1, 2, 0};
        for (int kind = 0; kind < 6; kind++) {
            is[kind][kind] = true;
            is[kind][above[kind]] = true;
            is[kind][0] = true;
        }
        for (int kind = 0; kind < 6; kind++) {
            WordLeash x = new WordLeash();
            x.word(kind, 15, 30, 1);
            x.lay(0, 1, 0);
            for (int asked = 0; asked < 6; asked++) {
                Due.is("ask " + asked + " of " + kind, x.ask(0, asked), is[kind][asked] ? x.told(0, 7) : KIND);
                Due.is("as " + asked + " of " + kind, x.as(0, asked), is[kind][asked] ? 30 : KIND);
            }
        }
    }

    private static void itemsFrom0ToTheLast() {
        for (int n = 0; n <= 24; n++) {
            WordLeash x = new WordLeash();
            x.sheet(0, SHORTS, n);
            if (n > 0) {
                x.mark(0, n - 1, 5);
            }
            x.lay(0, 2, 0);
            Due.is("the last", x.item(0, n - 1), n > 0 ? 5 : INDEX);
            for (int place : new int[] {-1, n, n + 1, MOST, LEAST}) {
                Due.is("no such place", x.item(0, place), INDEX);
            }
        }
    }

    private static void restAsJavas() {
        int[] numbers = {0, 1, -1, 7, -7, MOST, LEAST};
        int[] by = {1, -1, 2, -2, 7, -7, MOST, LEAST};
        WordLeash x = new WordLeash();
        for (int number : numbers) {
            x.lay(0, 3, number);
            for (int n : by) {
                Due.is(number + " by " + n, x.rest(0, n), number % n);
            }
            Due.is(number + " by 0", x.rest(0, 0), NO);
        }
    }
}
