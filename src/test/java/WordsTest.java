/** Promises 1 to 12: words, travellers. */
public final class WordsTest {
    private static final int BAD = WordLeash.BAD, FULL = WordLeash.FULL, KIND = WordLeash.KIND, NONE = WordLeash.NONE;
    private static final int MOST = Integer.MAX_VALUE, LEAST = Integer.MIN_VALUE;

    public static void main(String[] args) {
        constants();
        promise1();
        promise2();
        promise3();
        costsOfVerbs();
        costsOfHummed();
        costsByATextAreHeld();
        worths();
        promise4();
        promise5();
        promise6();
        promise7();
        promise8();
        promise9();
        promise10();
        promise11();
        promise12();
        Due.end("WordsTest");
    }

    private static void constants() {
        Due.is("BAD", BAD, -1000000001);
        Due.is("NO", WordLeash.NO, -1000000002);
        Due.is("FULL", FULL, -1000000003);
        Due.is("NONE", NONE, -1000000005);
        Due.is("NOTHING", WordLeash.NOTHING, -1000000011);
        Due.is("KIND", KIND, -1000000012);
        Due.is("INDEX", WordLeash.INDEX, -1000000013);
        Due.is("SIZE", WordLeash.SIZE, -1000000014);
    }

    private static void promise1() {
        WordLeash x = new WordLeash();
        int[] due = {0, 0, 0, 6, 50, 0, 0, 0, 0, 0, 1};
        for (int what = 0; what < due.length; what++) {
            Due.is("new: count " + what, x.count(what), due[what]);
        }
        Due.is("new: LEARNT", x.man(0), 0);
        Due.is("new: TURNED", x.man(1), 0);
        Due.is("new: no WORD", x.told(0, 0), BAD);
        Due.is("new: no TRAVELLER", x.travels(0, 0), BAD);
        Due.is("new: no IMAGE", x.back(), WordLeash.NO);
        for (int i = 0; i < 4; i++) {
            Due.is("new: SHEET is MISSING", x.reads(i), WordLeash.NOTHING);
        }
        for (int i = 0; i < 5; i++) {
            Due.is("new: SLOT holds nothing", x.rest(i, 1), WordLeash.NOTHING);
        }
        for (int key = 0; key < 3; key++) {
            Due.is("new: no TEXT", x.why(key), NONE);
        }
        new WordLeash().word(0, 1, 1, 1);
        Due.is("another object has its own words", x.count(0), 0);
    }

    private static void promise2() {
        WordLeash x = new WordLeash();
        int[][] wrong = {
            {-1, 1, 0, 0}, {6, 1, 0, 0}, {0, 0, 0, 0}, {0, -1, 0, 0}, {0, 256, 0, 0}, {0, 1, -1, 0}, {0, 1, 100, 0},
            {0, 1, 0, -1}, {0, 1, 0, 100}, {MOST, 1, 0, 0}, {LEAST, 1, 0, 0}, {0, LEAST, 0, 0}, {0, 1, MOST, 0},
            {0, 1, 0, LEAST}};
        for (int[] w : wrong) {
            Due.is("word wrong", x.word(w[0], w[1], w[2], w[3]), BAD);
        }
        Due.is("words after wrong ones", x.count(0), 0);
        Due.is("word at the highest", x.word(5, 255, 99, 99), 0);
        Due.is("word at the lowest", x.word(0, 1, 0, 0), 1);
        for (int i = 2; i < 10; i++) {
            Due.is("word " + i, x.word(i % 6, i, i, i), i);
        }
        Due.is("the eleventh word", x.word(0, 1, 0, 0), FULL);
        Due.is("BAD stands ahead of FULL", x.word(6, 1, 0, 0), BAD);
        Due.is("words", x.count(0), 10);
        Due.is("its KIND", x.told(3, 0), 3);
        Due.is("its SENSES", x.told(0, 1), 255);
        Due.is("its DUTY", x.told(0, 2), 99);
        Due.is("its QUOTA", x.told(0, 3), 99);
        Due.is("its STAMPS", x.told(0, 4), 0);
        Due.is("its TODAY", x.told(0, 5), 0);
    }

    private static void promise3() {
        WordLeash x = new WordLeash();
        x.word(1, 6, 20, 3);
        x.word(0, 1, 7, 0);
        x.traveller();
        x.cross(0, 3);
        int[] due = {1, 6, 20, 3, 1, 1, 40, 26, 1};
        for (int what = 0; what < due.length; what++) {
            Due.is("told(0, " + what + ")", x.told(0, what), due[what]);
        }
        Due.is("not LEARNT", x.told(1, 8), 0);
        x.forget();
        Due.is("LEARNT no more", x.told(0, 8), 0);
        x.traveller();
        x.days(1);
        Due.is("TODAY of a new day", x.told(0, 5), x.told(0, 4) - 1);
        int[][] wrong = {{2, 0}, {-1, 0}, {0, 9}, {0, -1}, {MOST, 0}, {LEAST, 0}, {0, MOST}, {0, LEAST}};
        for (int[] w : wrong) {
            Due.is("told wrong", x.told(w[0], w[1]), BAD);
        }
    }

    private static void costsOfVerbs() {
        WordLeash x = new WordLeash();
        x.word(1, 1, 10, 5);
        x.word(3, 1, 10, 5);
        x.word(1, 1, 10, 1);
        x.word(1, 1, 10, 2);
        for (int i = 0; i < 3; i++) {
            x.traveller();
        }
        Due.is("VERB, none today", x.told(0, 6), 10);
        Due.is("SIGH, none today", x.told(1, 6), 13);
        Due.is("VERB, QUOTA 1: half is 0", x.told(2, 6), 20);
        Due.is("VERB, QUOTA 2: half is 1", x.told(3, 6), 10);
        x.cross(0, 3);
        Due.is("VERB, 1 of 5 today", x.told(0, 6), 10);
        x.cross(1, 3);
        Due.is("VERB, 2 of 5 today", x.told(0, 6), 20);
        Due.is("SIGH, 2 of 5 today", x.told(1, 6), 23);
        Due.is("paid as it was ahead of the stamp", x.travels(1, 1), 23);
        x.cross(2, 1);
        Due.is("paid twice", x.travels(2, 1), 20);
    }

    private static void costsOfHummed() {
        WordLeash x = new WordLeash();
        x.word(2, 1, 9, 5);
        x.word(4, 1, 9, 5);
        x.word(4, 1, 3, 5);
        x.word(5, 1, 99, 5);
        x.word(0, 1, 9, 0);
        Due.is("HUMMED", x.told(0, 6), 4);
        Due.is("DRIED", x.told(1, 6), 2);
        Due.is("DRIED, 0 at least", x.told(2, 6), 0);
        Due.is("FREE", x.told(3, 6), 0);
        Due.is("WORD", x.told(4, 6), 9);
    }

    private static void costsByATextAreHeld() {
        WordLeash x = new WordLeash();
        for (int kind = 0; kind < 6; kind++) {
            x.word(kind, 1, 50, 4);
        }
        Due.text(x, "duty d*100");
        int[] most = {999, 999, 499, 1002, 497, 0};
        for (int kind = 0; kind < 6; kind++) {
            Due.is("held at most, KIND " + kind, x.told(kind, 6), most[kind]);
        }
        Due.text(x, "duty 0-d");
        int[] least = {0, 0, 0, 3, 0, 0};
        for (int kind = 0; kind < 6; kind++) {
            Due.is("held at least, KIND " + kind, x.told(kind, 6), least[kind]);
        }
        Due.text(x, "duty 999+t");
        x.traveller();
        x.traveller();
        x.cross(0, 2);
        x.cross(1, 2);
        Due.is("twice what is held", x.told(1, 6), 1998);
        Due.text(x, "duty d*t+q*(1000-d)");
        Due.is("names of duty", x.told(1, 6), 1998);
        Due.text(x, "duty d-t*10+q");
        Due.is("names of duty again", x.told(1, 6), 68);
        Due.is("WORTH goes without a TEXT", x.told(0, 7), 50);
        Due.is("as goes without a TEXT", x.as(0, 0), 50);
    }

    private static void worths() {
        WordLeash x = new WordLeash();
        for (int kind = 0; kind < 6; kind++) {
            x.word(kind, 127, 30, 2);
        }
        int[] due = {30, 36, 69, 72, 64, 7};
        for (int kind = 0; kind < 6; kind++) {
            Due.is("WORTH of KIND " + kind, x.told(kind, 7), due[kind]);
        }
        x.set(4, 2, 99);
        Due.is("WORTH below 0", x.told(4, 7), -5);
    }

    private static void promise4() {
        WordLeash x = new WordLeash();
        for (int kind = 0; kind < 6; kind++) {
            x.word(kind, 1, 40 + kind, 2);
        }
        int[] under = {1, 1 | 2, 1 | 4, 1 | 2 | 8, 1 | 4 | 16, 1 | 32};
        for (int word = 0; word < 6; word++) {
            for (int kind = 0; kind < 6; kind++) {
                int due = (under[word] >> kind & 1) == 1 ? 40 + word : KIND;
                Due.is("as(" + word + ", " + kind + ")", x.as(word, kind), due);
            }
        }
        int[][] wrong = {{6, 0}, {-1, 0}, {0, 6}, {0, -1}, {MOST, 0}, {LEAST, 0}, {0, MOST}, {0, LEAST}};
        for (int[] w : wrong) {
            Due.is("as wrong", x.as(w[0], w[1]), BAD);
        }
    }

    private static void promise5() {
        WordLeash x = new WordLeash();
        x.word(0, 1, 10, 2);
        Due.is("turns to DRIED", x.turns(0, 4), 0);
        Due.is("turns to FREE", x.turns(0, 5), 4);
        Due.is("is FREE", x.told(0, 0), 5);
        int[][] wrong = {{1, 0}, {-1, 0}, {0, 6}, {0, -1}};
        for (int[] w : wrong) {
            Due.is("turns wrong", x.turns(w[0], w[1]), BAD);
        }
        Due.is("is FREE still", x.turns(0, 5), 5);
        Due.is("turns to WORD", x.turns(0, 0), 5);
        Due.is("costs as WORD", x.told(0, 6), 10);
    }

    private static void promise6() {
        WordLeash x = new WordLeash();
        x.word(0, 3, 10, 2);
        Due.is("set SENSES", x.set(0, 1, 255), 3);
        Due.is("set DUTY", x.set(0, 2, 99), 10);
        Due.is("set QUOTA", x.set(0, 3, 99), 2);
        Due.is("set SENSES to the lowest", x.set(0, 1, 1), 255);
        Due.is("set DUTY to the lowest", x.set(0, 2, 0), 99);
        Due.is("set QUOTA to the lowest", x.set(0, 3, 0), 99);
        int[][] wrong = {
            {1, 1, 1}, {-1, 1, 1}, {0, 0, 1}, {0, 4, 1}, {0, -1, 1}, {0, 1, 0}, {0, 1, 256}, {0, 1, -1}, {0, 2, -1},
            {0, 2, 100}, {0, 3, -1}, {0, 3, 100}, {0, 1, MOST}, {0, 2, LEAST}};
        for (int[] w : wrong) {
            Due.is("set wrong", x.set(w[0], w[1], w[2]), BAD);
        }
        Due.is("SENSES then", x.told(0, 1), 1);
        Due.is("DUTY then", x.told(0, 2), 0);
        Due.is("QUOTA then", x.told(0, 3), 0);
    }

    private static void promise7() {
        WordLeash x = new WordLeash();
        for (int i = 0; i < 6; i++) {
            Due.is("traveller", x.traveller(), i);
        }
        Due.is("the seventh", x.traveller(), FULL);
        Due.is("travellers", x.count(1), 6);
        Due.is("holds none", x.travels(5, 0), 0);
        Due.is("paid nothing", x.travels(5, 1), 0);
    }

    private static void promise8() {
        WordLeash x = new WordLeash();
        x.word(0, 3, 10, 2);
        x.word(0, 3, 7, 2);
        x.traveller();
        x.traveller();
        x.cross(1, 2);
        Due.is("holds", x.travels(1, 0), 2);
        Due.is("paid", x.travels(1, 1), 7);
        Due.is("the other holds", x.travels(0, 0), 0);
        Due.is("the other paid", x.travels(0, 1), 0);
        int[][] wrong = {{2, 0}, {-1, 0}, {0, 2}, {0, -1}, {MOST, 1}, {LEAST, 1}};
        for (int[] w : wrong) {
            Due.is("travels wrong", x.travels(w[0], w[1]), BAD);
        }
    }

    private static void promise9() {
        WordLeash x = new WordLeash();
        x.word(0, 3, 10, 2);
        x.word(0, 3, 7, 2);
        x.traveller();
        Due.is("gives both", x.gives(0, 3), 0);
        Due.is("gives just one", x.gives(0, 2), 3);
        Due.is("paid nothing for it", x.travels(0, 1), 0);
        Due.is("nothing is LEARNT by it", x.man(0), 0);
        int[][] wrong = {{1, 0}, {-1, 0}, {0, 4}, {0, 5}, {0, -1}, {0, 1024}, {0, LEAST}, {0, MOST}};
        for (int[] w : wrong) {
            Due.is("gives wrong", x.gives(w[0], w[1]), BAD);
        }
        Due.is("gives none", x.gives(0, 0), 2);
        Due.is("holds none", x.travels(0, 0), 0);
    }

    private static void promise10() {
        WordLeash x = new WordLeash();
        Due.is("PATIENCE was", x.rule(0, 1), 6);
        Due.is("PATIENCE was 1", x.rule(0, 10), 1);
        Due.is("CATCH was", x.rule(1, 0), 50);
        Due.is("CATCH was 0", x.rule(1, 100), 0);
        int[][] wrong = {{0, 0}, {0, 11}, {0, -1}, {1, -1}, {1, 101}, {2, 1}, {-1, 1}, {0, MOST}, {1, LEAST}};
        for (int[] w : wrong) {
            Due.is("rule wrong", x.rule(w[0], w[1]), BAD);
        }
        Due.is("PATIENCE then", x.count(3), 10);
        Due.is("CATCH then", x.count(4), 100);
    }

    private static void promise11() {
        WordLeash x = new WordLeash();
        int z = 77;
        x.seed(z);
        Due.is("deal", x.deal(3), 3);
        int[] by = {6, 255, 50, 10};
        for (int word = 0; word < 3; word++) {
            for (int what = 0; what < 4; what++) {
                z = z * 1103515245 + 12345;
                Due.is("drawn " + what, x.told(word, what), (z >>> 8) % by[what] + (what == 1 ? 1 : 0));
            }
        }
        Due.is("z then", x.count(10), z);
        for (int n : new int[] {0, 11, -1, MOST, LEAST}) {
            Due.is("deal wrong", x.deal(n), BAD);
        }
        Due.is("deal beyond the room", x.deal(10), 7);
        for (int i = 0; i < 28; i++) {
            z = z * 1103515245 + 12345;
        }
        Due.is("no draws for others", x.count(10), z);
        Due.is("deal without room", x.deal(1), 0);
        Due.is("no draws at all", x.count(10), z);
        Due.is("deal wrong without room", x.deal(11), BAD);
    }

    private static void promise12() {
        WordLeash x = new WordLeash();
        Due.is("z was 1", x.seed(LEAST), 1);
        Due.is("z was the least", x.seed(MOST), LEAST);
        Due.is("z is told", x.count(10), MOST);
        Due.is("z was the most", x.seed(0), MOST);
    }
}
