/** Promises 17 to 26: what can be said. */
public final class SpeechTest {
    private static final int BAD = WordLeash.BAD, NONE = WordLeash.NONE, NOTHING = WordLeash.NOTHING;
    private static final int MOST = Integer.MAX_VALUE, LEAST = Integer.MIN_VALUE;
    private static final int[] WRONG_SENSES = {-1, 256, MOST, LEAST};
    private static final int[] WRONG_TRAVELLERS = {-1, 2, MOST, LEAST};

    public static void main(String[] args) {
        promise17();
        cheapestOfSeveral();
        cheapestByWhatIsHeld();
        cheapestCostsAreOfNow();
        promise18Refuses();
        promise19();
        promise20();
        promise21();
        behindIsOnlyThought();
        behindGoesBeyondTheLastDay();
        promise23();
        turnsByTheFirstWordAsked();
        quotaIsTheLeastOfSeveral();
        quotaByDays();
        quotaPassesOverNoNumbers();
        promise24Refuses();
        promise25();
        promise26();
        Due.end("SpeechTest");
    }

    private static WordLeash withTwo(int[]... words) {
        WordLeash x = new WordLeash();
        for (int[] w : words) {
            x.word(w[0], w[1], w[2], w[3]);
        }
        x.traveller();
        x.traveller();
        return x;
    }

    private static void promise17() {
        WordLeash x = withTwo(new int[] {0, 3, 1, 1}, new int[] {0, 12, 1, 1});
        Due.is("nothing is said with nothing", x.says(0, 0), 1);
        Due.is("not without words", x.says(0, 1), 0);
        x.gives(0, 1);
        Due.is("all of its senses", x.says(0, 3), 1);
        Due.is("some of its senses", x.says(0, 2), 1);
        Due.is("one sense too many", x.says(0, 7), 0);
        x.gives(0, 3);
        Due.is("together", x.says(0, 15), 1);
        Due.is("the other one", x.says(1, 1), 0);
        Due.is("the highest", x.says(0, 255), 0);
        for (int senses : WRONG_SENSES) {
            Due.is("says wrong senses", x.says(0, senses), BAD);
        }
        for (int traveller : WRONG_TRAVELLERS) {
            Due.is("says wrong traveller", x.says(traveller, 0), BAD);
        }
    }

    private static void cheapestOfSeveral() {
        WordLeash x = withTwo(new int[] {0, 1, 5, 1}, new int[] {0, 2, 5, 1}, new int[] {0, 3, 10, 1},
            new int[] {0, 3, 10, 1}, new int[] {5, 4, 9, 1}, new int[] {5, 4, 9, 1});
        Due.is("the least sum", x.cheapest(0, 3, 0), 10);
        Due.is("of several the fewest, then the least as bits", x.cheapest(0, 3, 1), 4);
        Due.is("FREE ones are not added", x.cheapest(0, 1, 1), 1);
        Due.is("the least as bits", x.cheapest(0, 4, 1), 16);
        Due.is("free of duty", x.cheapest(0, 4, 0), 0);
        Due.is("nothing costs nothing", x.cheapest(0, 0, 0), 0);
        Due.is("nothing is no word", x.cheapest(0, 0, 1), 0);
        x.set(2, 2, 11);
        x.set(3, 2, 11);
        Due.is("two are cheaper", x.cheapest(0, 3, 1), 3);
        Due.is("three", x.cheapest(0, 7, 1), 19);
        x = withTwo(new int[] {0, 1, 5, 1}, new int[] {0, 2, 6, 1}, new int[] {0, 4, 7, 1});
        Due.is("all", x.cheapest(0, 7, 1), 7);
        Due.is("sum of all", x.cheapest(0, 7, 0), 18);
    }

    private static void cheapestByWhatIsHeld() {
        WordLeash x = withTwo(new int[] {5, 1, 5, 1}, new int[] {0, 1, 5, 1}, new int[] {0, 3, 0, 1},
            new int[] {0, 2, 9, 1});
        x.gives(0, 2);
        Due.is("what is held costs nothing and counts for nothing", x.cheapest(0, 1, 1), 2);
        Due.is("the other one takes the free one", x.cheapest(1, 1, 1), 1);
        x.gives(0, 10);
        Due.is("two that are held are none to bring", x.cheapest(0, 3, 1), 10);
        Due.is("sum of what is held", x.cheapest(0, 3, 0), 0);
        x.gives(0, 15);
        Due.is("of held ones the least as bits", x.cheapest(0, 3, 1), 4);
    }

    private static void cheapestCostsAreOfNow() {
        WordLeash x = withTwo(new int[] {1, 1, 10, 2}, new int[] {0, 1, 15, 1});
        Due.is("the verb is cheaper", x.cheapest(0, 1, 1), 1);
        x.cross(1, 1);
        Due.is("the verb is dearer today", x.cheapest(0, 1, 1), 2);
        Due.is("by the word", x.cheapest(0, 1, 0), 15);
        Due.text(x, "duty 30-d");
        Due.is("by a text", x.cheapest(0, 1, 0), 15);
        Due.text(x, "duty 3*d");
        Due.is("by another text", x.cheapest(0, 1, 0), 45);
        x.rule(0, 1);
        Due.is("costs, THE MAN TURNED or not", x.cheapest(0, 1, 0), 45);
        Due.is("without QUOTA left it costs, too", x.told(1, 3), 1);
    }

    private static void promise18Refuses() {
        WordLeash x = withTwo(new int[] {0, 3, 1, 1}, new int[] {0, 12, 1, 1});
        Due.is("no words have it: sum", x.cheapest(0, 16, 0), NONE);
        Due.is("no words have it: set", x.cheapest(0, 17, 1), NONE);
        for (int senses : WRONG_SENSES) {
            Due.is("cheapest wrong senses", x.cheapest(0, senses, 0), BAD);
        }
        for (int traveller : WRONG_TRAVELLERS) {
            Due.is("cheapest wrong traveller", x.cheapest(traveller, 0, 0), BAD);
        }
        for (int what : new int[] {-1, 2, MOST, LEAST}) {
            Due.is("cheapest wrong what", x.cheapest(0, 255, what), BAD);
        }
        Due.is("no words, no senses", new WordLeash().cheapest(0, 0, 0), BAD);
    }

    private static void promise19() {
        WordLeash x = withTwo(new int[] {0, 1, 1, 1}, new int[] {0, 2, 1, 1}, new int[] {0, 7, 1, 1},
            new int[] {0, 6, 1, 1}, new int[] {0, 5, 1, 1});
        Due.is("can't", x.shortest(0, 1), NONE);
        Due.is("nothing", x.shortest(0, 0), 0);
        x.gives(0, 27);
        Due.is("two words", x.shortest(0, 7), 9);
        x.gives(0, 26);
        Due.is("of two the least as bits", x.shortest(0, 7), 18);
        x.gives(0, 31);
        Due.is("one word", x.shortest(0, 7), 4);
        Due.is("the least one", x.shortest(0, 4), 4);
        Due.is("the lower one", x.shortest(0, 1), 1);
        Due.is("can't say eight", x.shortest(0, 8), NONE);
        for (int senses : WRONG_SENSES) {
            Due.is("shortest wrong senses", x.shortest(0, senses), BAD);
        }
        for (int traveller : WRONG_TRAVELLERS) {
            Due.is("shortest wrong traveller", x.shortest(traveller, 0), BAD);
        }
    }

    private static void promise20() {
        WordLeash x = withTwo(new int[] {0, 15, 1, 1}, new int[] {0, 7, 1, 1}, new int[] {0, 56, 1, 1},
            new int[] {0, 192, 1, 1});
        x.gives(0, 14);
        Due.is("with none", x.nearest(0, 255, 0), 0);
        Due.is("with one", x.nearest(0, 255, 1), 3);
        Due.is("with two", x.nearest(0, 255, 2), 6);
        Due.is("with three", x.nearest(0, 255, 3), 8);
        Due.is("with ten", x.nearest(0, 255, 10), 8);
        Due.is("only those that are asked", x.nearest(0, 72, 10), 2);
        Due.is("the one that fits", x.nearest(0, 192, 1), 2);
        Due.is("nothing asked", x.nearest(0, 0, 10), 0);
        Due.is("nothing held", x.nearest(1, 255, 10), 0);
        for (int senses : WRONG_SENSES) {
            Due.is("nearest wrong senses", x.nearest(0, senses, 1), BAD);
        }
        for (int traveller : WRONG_TRAVELLERS) {
            Due.is("nearest wrong traveller", x.nearest(traveller, 0, 1), BAD);
        }
        for (int n : new int[] {-1, 11, MOST, LEAST}) {
            Due.is("nearest wrong n", x.nearest(0, 1, n), BAD);
        }
    }

    private static void promise21() {
        WordLeash x = new WordLeash();
        x.word(0, 1, 1, 1);
        x.word(0, 2, 1, 1);
        x.word(0, 3, 99, 1);
        x.word(0, 3, 1, 1);
        Due.is("without travellers: the fewest, the least as bits", x.treaty(3), 4);
        Due.is("for nothing", x.treaty(0), 0);
        Due.is("no words have it", x.treaty(4), NONE);
        x.traveller();
        x.traveller();
        Due.is("nothing is held yet", x.treaty(3), 4);
        x.gives(0, 1);
        Due.is("one sense is there", x.treaty(3), 2);
        x.gives(1, 2);
        Due.is("all together can say them", x.treaty(3), 0);
        Due.is("no words have it, still", x.treaty(7), NONE);
        for (int senses : WRONG_SENSES) {
            Due.is("treaty wrong", x.treaty(senses), BAD);
        }
    }

    private static WordLeash ready() {
        WordLeash x = new WordLeash();
        x.seed(41);
        x.deal(8);
        for (int i = 0; i < 4; i++) {
            x.traveller();
        }
        x.rule(1, 70);
        return x;
    }

    private static void behindIsOnlyThought() {
        for (int n : new int[] {0, 1, 2, 3, 7, 60}) {
            WordLeash x = ready();
            long[] before = Due.counts(x);
            int paid = x.behind(2, n, 0);
            int holds = x.behind(2, n, 1);
            int learnt = x.behind(2, n, 2);
            Due.same("behind is only thought", x, before);
            Due.is("holds nothing yet", x.travels(2, 0), 0);
            if (n > 0) {
                x.days(n);
            }
            Due.is("behind " + n + ": PAID of all", paid, x.count(5));
            Due.is("behind " + n + ": holds", holds, x.travels(2, 0));
            Due.is("behind " + n + ": LEARNT", learnt, x.man(0));
        }
        WordLeash x = ready();
        int[][] wrong = {{4, 1, 0}, {-1, 1, 0}, {0, -1, 0}, {0, 61, 0}, {0, 1, 3}, {0, 1, -1}, {MOST, 0, 0}, {0, LEAST, 0}};
        for (int[] w : wrong) {
            Due.is("behind wrong", x.behind(w[0], w[1], w[2]), BAD);
        }
        Due.is("behind without travellers", new WordLeash().behind(0, 0, 0), BAD);
    }

    private static void behindGoesBeyondTheLastDay() {
        WordLeash x = new WordLeash();
        for (int i = 0; i < 167; i++) {
            x.days(60);
        }
        Due.is("the last day", x.count(2), 9999);
        x.word(0, 1, 10, 9);
        x.rule(0, 1);
        x.traveller();
        Due.is("thought goes on", x.behind(0, 60, 1), 1);
        Due.holds("THE MAN turns in thought", x.turnsBy() > 0);
        x.sheet(0, 0, 24);
        x.mark(0, 23, 1);
        Due.is("quota goes on in thought", x.quota(0, 0, 0), 0);
        Due.is("no day passes", x.days(1), 0);
        Due.is("holds nothing", x.travels(0, 0), 0);
    }

    private static void promise23() {
        WordLeash x = new WordLeash();
        for (int i = 0; i < 10; i++) {
            x.word(0, 1, 1, 1);
        }
        x.traveller();
        x.rule(0, 10);
        long[] before = Due.counts(x);
        int by = x.turnsBy();
        Due.same("turnsBy is only thought", x, before);
        Due.holds("not at once", by > 1);
        x.days(by - 1);
        Due.is("not a day before", x.man(1), 0);
        Due.is("in a day", x.turnsBy(), 1);
        x.days(1);
        Due.is("on that day", x.man(1), 1);
        Due.is("TURNED already", x.turnsBy(), 0);
        Due.is("without words", new WordLeash().turnsBy(), NONE);
        WordLeash y = withTwo(new int[] {0, 1, 1, 0});
        y.rule(0, 1);
        Due.is("without QUOTA", y.turnsBy(), NONE);
    }

    private static void turnsByTheFirstWordAsked() {
        for (int seed = 0; seed < 200; seed++) {
            WordLeash x = new WordLeash();
            x.word(0, 1, 1, 1);
            x.traveller();
            x.rule(0, 1);
            x.seed(seed);
            int z = seed;
            int days = 0;
            do {
                z = z * 1103515245 + 12345;
                days++;
            } while ((z >>> 8 & 1) == 0);
            Due.is("turnsBy of seed " + seed, x.turnsBy(), days);
        }
    }

    private static void quotaIsTheLeastOfSeveral() {
        WordLeash x = withTwo(new int[] {0, 1, 1, 5}, new int[] {0, 2, 1, 5});
        x.sheet(0, 0, 0);
        Due.is("no places: the least QUOTA", x.quota(0, 0, 0), 0);
        Due.is("no places: no differences", x.quota(0, 0, 1), 0);
        x.sheet(0, 0, 1);
        x.mark(0, 0, 9);
        Due.is("now: no QUOTA changes that", x.quota(0, 0, 0), 0);
        Due.is("now: the difference", x.quota(0, 0, 1), 9);
        x.mark(0, 0, -9);
        Due.is("signs are left out", x.quota(0, 0, 1), 9);
        x.cross(0, 1);
        Due.is("STAMPS of now", x.quota(0, 0, 1), 10);
        Due.is("STAMPS of that word", x.quota(0, 1, 1), 9);
        x.sheet(0, 1, 24);
        for (int i = 0; i < 24; i++) {
            x.mark(0, i, i % 2 == 0 ? 99999 : -99999);
        }
        Due.holds("the sum is long", x.quota(0, 1, 1) > 23 * 99999);
    }

    private static void quotaByDays() {
        for (int seed = 1; seed < 12; seed++) {
            quotaByDays(seed, 0);
            quotaByDays(seed, 1);
        }
    }

    private static void quotaByDays(int seed, int word) {
        WordLeash x = new WordLeash();
        x.word(0, 1, 1, 9);
        x.word(2, 2, 1, 9);
        for (int i = 0; i < 6; i++) {
            x.traveller();
        }
        x.rule(0, 9);
        x.seed(seed);
        x.sheet(1, 0, 6);
        for (int k = 0; k < 6; k++) {
            x.mark(1, k, k * seed % 4);
        }
        long[] before = Due.counts(x);
        int best = -1;
        int least = MOST;
        for (int q = 0; q <= 20; q++) {
            int together = together(x, word, q, seed);
            if (together < least) {
                least = together;
                best = q;
            }
        }
        Due.is("QUOTA by a SHEET", x.quota(1, word, 0), best);
        Due.is("differences by a SHEET", x.quota(1, word, 1), least);
        Due.same("quota is only thought", x, before);
        Due.is("QUOTA stays", x.told(0, 3), 9);
    }

    /** The same sum, with days that pass and come back by an image. */
    private static int together(WordLeash x, int word, int q, int seed) {
        x.keep();
        x.set(word, 3, q);
        int together = 0;
        for (int k = 0; k < 6; k++) {
            together += Math.abs(x.told(word, 4) - k * seed % 4);
            x.days(1);
        }
        x.back();
        return together;
    }

    private static void quotaPassesOverNoNumbers() {
        WordLeash x = withTwo(new int[] {0, 1, 1, 5}, new int[] {0, 2, 1, 5});
        x.sheet(0, 1, 24);
        for (int i = 0; i < 24; i++) {
            x.mark(0, i, NONE);
        }
        Due.is("no numbers: QUOTA", x.quota(0, 0, 0), 0);
        Due.is("no numbers: differences", x.quota(0, 0, 1), 0);
        x.mark(0, 23, 2);
        Due.is("two travellers stamp two, both on a day or not", x.quota(0, 0, 1), 0);
        Due.holds("with a QUOTA", x.quota(0, 0, 0) > 0);
    }

    private static void promise24Refuses() {
        WordLeash x = withTwo(new int[] {0, 1, 1, 5}, new int[] {0, 2, 1, 5});
        Due.is("MISSING", x.quota(0, 0, 0), NOTHING);
        Due.is("BAD ahead of NOTHING", x.quota(0, 2, 0), BAD);
        x.sheet(0, 0, 3);
        int[][] wrong = {{-1, 0, 0}, {4, 0, 0}, {0, 2, 0}, {0, -1, 0}, {0, 0, 2}, {0, 0, -1}, {MOST, 0, 0}, {0, LEAST, 0}};
        for (int[] w : wrong) {
            Due.is("quota wrong", x.quota(w[0], w[1], w[2]), BAD);
        }
    }

    private static void promise25() {
        WordLeash x = withTwo(new int[] {0, 1, 12, 5}, new int[] {0, 2, 30, 5});
        x.cross(0, 3);
        Due.is("without a TEXT", x.bill(0), 42);
        Due.text(x, "fine 1");
        Due.is("another KEY changes nothing", x.bill(0), 42);
        Due.text(x, "bill p*100+n");
        Due.is("names of bill", x.bill(0), 4202);
        Due.is("of the other", x.bill(1), 0);
        Due.text(x, "bill 0-p");
        Due.is("the last one counts, below 0, too", x.bill(0), -42);
        Due.text(x, "bill");
        Due.is("a FAULT is no TEXT", x.bill(0), -42);
        Due.is("PAID stays", x.travels(0, 1), 42);
        for (int traveller : WRONG_TRAVELLERS) {
            Due.is("bill wrong", x.bill(traveller), BAD);
        }
    }

    private static void promise26() {
        WordLeash x = withTwo(new int[] {0, 1, 12, 5}, new int[] {0, 2, 30, 5});
        Due.is("without STAMPS", x.fine(), 0);
        x.cross(0, 3);
        x.cross(1, 1);
        Due.is("without a TEXT", x.fine(), 3);
        Due.text(x, "fine s*100+l");
        Due.is("names of fine", x.fine(), 302);
        x.forget();
        Due.is("LEARNT none", x.fine(), 300);
        Due.text(x, "fine 9999*9999*9999");
        Due.is("ints wrap", x.fine(), 9999 * 9999 * 9999);
    }
}
