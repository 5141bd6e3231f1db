/** The bounds that "Terms" names in section 3, a sentence each. */
public final class EdgesOfSpeechTest {
    private static final int BAD = WordLeash.BAD, NONE = WordLeash.NONE, NOTHING = WordLeash.NOTHING;

    public static void main(String[] args) {
        noSensesAreAlwaysSaid();
        sensesAreSaidTogether();
        cheapestForNoSensesIsNoWord();
        cheapestTakesTheLeastSum();
        cheapestOfOneSumTakesTheFewestToBring();
        cheapestOfAsManyTakesTheLeastAsBits();
        cheapestAddsUpEight();
        cheapestWithoutWords();
        cheapestDoesNotAskForQuotaOrTheMan();
        shortestForNoSensesIsNoWord();
        shortestTakesTheFewest();
        shortestOfAsManyTakesTheLeastAsBits();
        shortestAsksOnlyWhatIsHeld();
        nearestWithNoWordIsNothing();
        nearestWithMoreThanAreHeld();
        nearestCountsSensesOnce();
        treatyWithoutTravellers();
        treatyOfWhatIsHeld();
        treatyTakesTheFewestThenTheLeastAsBits();
        sensesAre0To255();
        nearestIsOf0To10();
        behind0DaysIsNow();
        behindIs0To60();
        behindWithoutWords();
        thoughtGoesBeyondDay9999();
        turnsBy0IfHeIsTurned();
        turnsByWithoutTravellers();
        turnsByTheFirstDay();
        turnsByNeverIfQuotasForbid();
        quotaOfEachNumber();
        quotaWithoutPlaces();
        quotaAtPlace0IsNow();
        quotaLeavesSignsOut();
        quotaOfSeveralIsTheLeast();
        quotaWithoutTravellers();
        quotaPassesOverNoNumber();
        quotaCountsPlace23();
        quotaOfOneWordAlone();
        quotaStartsWithTheNextDay();
        Due.end("EdgesOfSpeechTest");
    }

    /** WORDS told by KIND, SENSES, DUTY and QUOTA 9. */
    private static WordLeash with(int travellers, int[]... words) {
        WordLeash x = new WordLeash();
        for (int[] w : words) {
            x.word(w[0], w[1], w[2], 9);
        }
        for (int i = 0; i < travellers; i++) {
            x.traveller();
        }
        return x;
    }

    private static int[] word(int senses, int duty) {
        return new int[] {0, senses, duty};
    }

    private static void isCheapest(String what, WordLeash x, int senses, int sum, int set) {
        Due.is(what + ", sum", x.cheapest(0, senses, 0), sum);
        Due.is(what + ", set", x.cheapest(0, senses, 1), set);
    }

    private static void noSensesAreAlwaysSaid() {
        Due.is("without words", with(1).says(0, 0), 1);
        Due.is("without held ones", with(1, word(1, 1)).says(0, 0), 1);
        Due.is("no sense without words", with(1).says(0, 1), 0);
        Due.is("no sense without held ones", with(1, word(1, 1)).says(0, 1), 0);
    }

    private static void sensesAreSaidTogether() {
        WordLeash x = with(2, word(1, 1), word(254, 1), word(128, 1));
        x.gives(0, 3);
        Due.is("all 255", x.says(0, 255), 1);
        x.gives(0, 2);
        Due.is("one is missing", x.says(0, 255), 0);
        Due.is("without it", x.says(0, 254), 1);
        x.gives(0, 5);
        Due.is("the ends", x.says(0, 129), 1);
        Due.is("one between", x.says(0, 131), 0);
        Due.is("the other one", x.says(1, 1), 0);
    }

    private static void cheapestForNoSensesIsNoWord() {
        isCheapest("without words", with(1), 0, 0, 0);
        WordLeash x = with(1, new int[] {5, 1, 0}, word(1, 0));
        isCheapest("beside words for nothing", x, 0, 0, 0);
        x.gives(0, 3);
        isCheapest("beside words that are held", x, 0, 0, 0);
    }

    private static void cheapestTakesTheLeastSum() {
        isCheapest("two for less", with(1, word(3, 11), word(1, 5), word(2, 5)), 3, 10, 6);
        isCheapest("one for less", with(1, word(1, 5), word(2, 5), word(3, 9)), 3, 9, 4);
        isCheapest("three for less than one", with(1, word(7, 7), word(1, 2), word(2, 2), word(4, 2)), 7, 6, 14);
        isCheapest("free ones for less", with(1, word(7, 1), new int[] {5, 3, 99}, new int[] {5, 4, 99}), 7, 0, 6);
        isCheapest("the one sense at each end", with(1, word(128, 9), word(129, 8), word(1, 7)), 129, 8, 2);
    }

    private static void cheapestOfOneSumTakesTheFewestToBring() {
        isCheapest("one of that sum", with(1, word(1, 5), word(2, 5), word(3, 10)), 3, 10, 4);
        isCheapest("nothing for nothing", with(1, new int[] {5, 1, 9}, new int[] {5, 1, 9}), 1, 0, 1);
        WordLeash x = with(1, word(1, 5), word(2, 5), word(1, 10), word(2, 50));
        x.gives(0, 8);
        isCheapest("what is held is not counted", x, 3, 5, 9);
        x = with(1, word(1, 5), word(2, 5), word(1, 10), word(2, 99), word(4, 99));
        x.gives(0, 24);
        x.set(3, 1, 2);
        isCheapest("held ones beside one to bring", x, 7, 5, 25);
        x = with(1, word(3, 0), word(1, 9), word(2, 9));
        x.gives(0, 6);
        isCheapest("two held are fewer than one for nothing", x, 3, 0, 6);
    }

    private static void cheapestOfAsManyTakesTheLeastAsBits() {
        isCheapest("the lower one", with(1, word(1, 5), word(1, 5)), 1, 5, 1);
        isCheapest("of three pairs", with(1, word(1, 5), word(2, 5), word(1, 5), word(2, 5)), 3, 10, 3);
        WordLeash x = with(1, word(1, 9), word(3, 9), word(2, 9));
        x.gives(0, 7);
        isCheapest("of held ones, not the fewest", x, 3, 0, 2);
        isCheapest("the one with few bits", x, 1, 0, 1);
        x = with(1, word(1, 9), word(2, 9), word(3, 9));
        x.gives(0, 7);
        isCheapest("two held of lower bits than one", x, 3, 0, 3);
    }

    private static void cheapestAddsUpEight() {
        WordLeash x = new WordLeash();
        for (int i = 0; i < 8; i++) {
            x.word(3, 1 << i, 99, 0);
        }
        x.word(0, 1, 0, 9);
        x.word(0, 2, 0, 9);
        x.traveller();
        Due.is("sum of six SIGHS", x.cheapest(0, 255, 0), 6 * 201);
        Due.is("six SIGHS and two WORDS", x.cheapest(0, 255, 1), 1020);
        Due.text(x, "duty 9999");
        Due.is("eight of the highest", x.cheapest(0, 255, 0), 6 * 2001 + 2 * 999);
        x.gives(0, 255);
        Due.is("all are held", x.cheapest(0, 255, 0), 0);
        Due.is("those that are held", x.cheapest(0, 255, 1), 255);
    }

    private static void cheapestWithoutWords() {
        isCheapest("a sense without words", with(1), 1, NONE, NONE);
        isCheapest("a sense that no word has", with(1, word(127, 1)), 128, NONE, NONE);
        isCheapest("one of many that no word has", with(1, word(127, 1)), 255, NONE, NONE);
        WordLeash x = with(1, word(1, 1));
        x.gives(0, 1);
        isCheapest("a sense that no held one has", x, 3, NONE, NONE);
    }

    private static void cheapestDoesNotAskForQuotaOrTheMan() {
        WordLeash x = with(1, word(1, 40), word(2, 5));
        x.set(0, 3, 0);
        isCheapest("without QUOTA", x, 1, 40, 1);
        x.rule(0, 1);
        x.cross(0, 2);
        Due.is("TURNED", x.man(1), 1);
        isCheapest("TURNED", x, 1, 40, 1);
    }

    private static void shortestForNoSensesIsNoWord() {
        Due.is("without words", with(1).shortest(0, 0), 0);
        WordLeash x = with(1, word(1, 1));
        x.gives(0, 1);
        Due.is("beside a held one", x.shortest(0, 0), 0);
    }

    private static void shortestTakesTheFewest() {
        WordLeash x = with(1, word(1, 0), word(2, 0), word(4, 0), word(7, 99), word(6, 99));
        x.gives(0, 31);
        Due.is("one of three", x.shortest(0, 7), 8);
        x.gives(0, 23);
        Due.is("two of three", x.shortest(0, 7), 17);
        x.gives(0, 7);
        Due.is("three of three", x.shortest(0, 7), 7);
    }

    private static void shortestOfAsManyTakesTheLeastAsBits() {
        WordLeash x = with(1, word(3, 1), word(1, 1), word(2, 1), word(3, 1));
        x.gives(0, 15);
        Due.is("the lower one", x.shortest(0, 3), 1);
        x.gives(0, 14);
        Due.is("the one that is held", x.shortest(0, 3), 8);
        x.set(3, 1, 128);
        Due.is("the lower pair", x.shortest(0, 3), 6);
    }

    private static void shortestAsksOnlyWhatIsHeld() {
        WordLeash x = with(2, word(255, 1), word(1, 1));
        Due.is("nothing held", x.shortest(0, 1), NONE);
        x.gives(1, 1);
        Due.is("another one holds it", x.shortest(0, 1), NONE);
        x.gives(0, 2);
        Due.is("not all of them", x.shortest(0, 3), NONE);
        Due.is("that one", x.shortest(0, 1), 2);
        Due.is("without words", with(1).shortest(0, 1), NONE);
    }

    private static void nearestWithNoWordIsNothing() {
        WordLeash x = with(2, word(255, 1));
        x.gives(0, 1);
        Due.is("with none", x.nearest(0, 255, 0), 0);
        Due.is("with one", x.nearest(0, 255, 1), 8);
        Due.is("for nothing", x.nearest(0, 0, 10), 0);
        Due.is("nothing held", x.nearest(1, 255, 10), 0);
        Due.is("no words", with(1).nearest(0, 255, 10), 0);
    }

    private static void nearestWithMoreThanAreHeld() {
        WordLeash x = new WordLeash();
        for (int i = 0; i < 10; i++) {
            x.word(0, 1 << i % 8, 1, 1);
        }
        x.traveller();
        for (int held = 0; held <= 10; held++) {
            x.gives(0, (1 << held) - 1);
            for (int n = 0; n <= 10; n++) {
                int due = Math.min(8, Math.min(held, n));
                Due.is("with " + n + " of " + held, x.nearest(0, 255, n), due);
            }
        }
    }

    private static void nearestCountsSensesOnce() {
        WordLeash x = with(1, word(7, 1), word(14, 1), word(56, 1));
        x.gives(0, 7);
        Due.is("two that share a sense", x.nearest(0, 255, 2), 6);
        Due.is("three", x.nearest(0, 255, 3), 6);
        Due.is("only those asked for", x.nearest(0, 15, 1), 3);
        Due.is("the two of them", x.nearest(0, 15, 2), 4);
        Due.is("at the edge", x.nearest(0, 64, 3), 0);
    }

    private static void treatyWithoutTravellers() {
        Due.is("for nothing", with(0, word(1, 1)).treaty(0), 0);
        Due.is("without words for nothing", with(0).treaty(0), 0);
        Due.is("without words", with(0).treaty(1), NONE);
        Due.is("one word", with(0, word(1, 1)).treaty(1), 1);
        Due.is("two words", with(0, word(1, 1), word(2, 1)).treaty(3), 3);
        Due.is("no word", with(0, word(1, 1), word(2, 1)).treaty(4), NONE);
        Due.is("not all", with(0, word(1, 1), word(2, 1)).treaty(7), NONE);
    }

    private static void treatyOfWhatIsHeld() {
        WordLeash x = with(6, word(1, 1), word(2, 1), word(4, 1), word(8, 1));
        x.gives(0, 1);
        x.gives(5, 4);
        Due.is("what none holds", x.treaty(15), 10);
        Due.is("what the first holds", x.treaty(1), 0);
        Due.is("what the last holds", x.treaty(4), 0);
        Due.is("what both hold, together", x.treaty(5), 0);
        x.gives(5, 0);
        Due.is("what is held no more", x.treaty(5), 4);
        x.gives(2, 15);
        Due.is("all", x.treaty(15), 0);
        Due.is("no word, even so", x.treaty(16), NONE);
    }

    private static void treatyTakesTheFewestThenTheLeastAsBits() {
        WordLeash x = with(1, word(1, 0), word(2, 0), word(3, 99), word(3, 99));
        Due.is("one is fewer than two", x.treaty(3), 4);
        x.set(2, 1, 8);
        Due.is("the one behind", x.treaty(3), 8);
        x.set(3, 1, 16);
        Due.is("two", x.treaty(3), 3);
        x = with(1, word(1, 1), word(3, 1), word(3, 1), word(4, 1));
        x.gives(0, 1);
        Due.is("of two the least as bits", x.treaty(3), 2);
        Due.is("with one more", x.treaty(7), 10);
    }

    private static void sensesAre0To255() {
        WordLeash x = with(1, word(255, 1));
        x.gives(0, 1);
        for (int senses : new int[] {-1, 256, 511, Integer.MAX_VALUE, Integer.MIN_VALUE, Integer.MIN_VALUE + 255}) {
            Due.is("says", x.says(0, senses), BAD);
            Due.is("cheapest", x.cheapest(0, senses, 0), BAD);
            Due.is("shortest", x.shortest(0, senses), BAD);
            Due.is("nearest", x.nearest(0, senses, 1), BAD);
            Due.is("treaty", x.treaty(senses), BAD);
        }
        for (int senses = 0; senses <= 255; senses += 255) {
            Due.is("says", x.says(0, senses), 1);
            Due.is("cheapest", x.cheapest(0, senses, 0), 0);
            Due.is("shortest", x.shortest(0, senses), senses & 1);
            Due.is("nearest", x.nearest(0, senses, 1), senses / 255 * 8);
            Due.is("treaty", x.treaty(senses), 0);
        }
    }

    private static void nearestIsOf0To10() {
        WordLeash x = with(1, word(1, 1));
        for (int n : new int[] {-1, 11, Integer.MAX_VALUE, Integer.MIN_VALUE}) {
            Due.is("nearest of " + n, x.nearest(0, 1, n), BAD);
        }
        Due.is("nearest of 0", x.nearest(0, 1, 0), 0);
        Due.is("nearest of 10", x.nearest(0, 1, 10), 0);
    }

    private static WordLeash lively() {
        WordLeash x = with(4, word(1, 5), new int[] {1, 2, 6}, new int[] {2, 4, 9}, word(8, 3), new int[] {4, 16, 40});
        x.seed(5);
        x.cross(1, 3);
        x.days(1);
        return x;
    }

    private static void behind0DaysIsNow() {
        WordLeash x = lively();
        Due.is("PAID of all", x.behind(0, 0, 0), x.count(5));
        for (int i = 0; i < 4; i++) {
            Due.is("HOLDS", x.behind(i, 0, 1), x.travels(i, 0));
        }
        Due.is("LEARNT", x.behind(0, 0, 2), x.man(0));
        Due.holds("there is something", x.count(5) > 0 && x.man(0) > 0);
    }

    private static void behindIs0To60() {
        for (int n : new int[] {-1, 61, Integer.MAX_VALUE, Integer.MIN_VALUE}) {
            for (int what = 0; what < 3; what++) {
                Due.is("behind " + n, lively().behind(0, n, what), BAD);
            }
        }
        for (int n : new int[] {1, 59, 60}) {
            WordLeash x = lively();
            WordLeash y = lively();
            y.days(n);
            for (int i = 0; i < 4; i++) {
                Due.is("PAID of all", x.behind(i, n, 0), y.count(5));
                Due.is("HOLDS", x.behind(i, n, 1), y.travels(i, 0));
                Due.is("LEARNT", x.behind(i, n, 2), y.man(0));
            }
        }
    }

    private static void behindWithoutWords() {
        WordLeash x = with(1);
        for (int what = 0; what < 3; what++) {
            Due.is("without words", x.behind(0, 60, what), 0);
        }
    }

    private static void thoughtGoesBeyondDay9999() {
        WordLeash x = new WordLeash();
        for (int i = 0; i < 167; i++) {
            x.days(60);
        }
        Due.is("the last day", x.count(2), 9999);
        x.word(0, 1, 10, 1);
        x.traveller();
        x.rule(0, 1);
        int first = firstDayAsked(x.count(10));
        Due.is("behind, a day ahead", x.behind(0, first - 1, 1), 0);
        Due.is("behind", x.behind(0, first, 1), 1);
        Due.is("TURNS BY", x.turnsBy(), first);
        x.sheet(0, 0, first + 1);
        x.mark(0, first, 1);
        Due.is("QUOTA", x.quota(0, 0, 0), 1);
        Due.is("differences", x.quota(0, 0, 1), 0);
        Due.is("no day passes", x.count(2), 9999);
    }

    /** On which day a draw has its lowest bit set, from z on. */
    private static int firstDayAsked(int z) {
        int days = 0;
        int at = z;
        do {
            at = at * 1103515245 + 12345;
            days++;
        } while ((at >>> 8 & 1) == 0);
        return days;
    }

    private static void turnsBy0IfHeIsTurned() {
        WordLeash x = with(1, word(1, 1));
        x.rule(0, 1);
        x.cross(0, 1);
        Due.is("TURNED", x.turnsBy(), 0);
        x.forget();
        Due.is("holds it, so never again", x.turnsBy(), NONE);
    }

    private static void turnsByWithoutTravellers() {
        WordLeash x = with(0, word(1, 1));
        x.rule(0, 1);
        Due.is("none comes", x.turnsBy(), NONE);
        Due.is("an empty border", new WordLeash().turnsBy(), NONE);
        Due.is("without words", with(6).turnsBy(), NONE);
    }

    private static void turnsByTheFirstDay() {
        for (int seed = 0; seed < 300; seed++) {
            WordLeash x = with(1, word(1, 1));
            x.rule(0, 1);
            x.seed(seed);
            Due.is("seed " + seed, x.turnsBy(), firstDayAsked(seed));
        }
    }

    private static void turnsByNeverIfQuotasForbid() {
        WordLeash x = with(2, word(1, 1), word(1, 1));
        x.rule(0, 2);
        Due.holds("two by two", x.turnsBy() > 0);
        x.rule(0, 3);
        Due.is("three by two", x.turnsBy(), NONE);
        x.rule(0, 2);
        x.set(1, 3, 0);
        Due.is("one of them without QUOTA", x.turnsBy(), NONE);
    }

    /** All six travellers bring WORD 0 on the first day. */
    private static WordLeash sixOnTheFirstDay() {
        WordLeash x = with(6, word(1, 1), word(2, 1));
        int seed = 0;
        boolean six = false;
        while (!six) {
            seed++;
            int z = seed;
            six = true;
            for (int i = 0; i < 6; i++) {
                z = z * 1103515245 + 12345;
                six &= (z >>> 8 & 1) == 1;
            }
        }
        x.seed(seed);
        return x;
    }

    private static void quotaOfEachNumber() {
        WordLeash x = sixOnTheFirstDay();
        x.sheet(0, 0, 2);
        for (int stamps = 0; stamps <= 20; stamps++) {
            x.mark(0, 1, stamps);
            Due.is("QUOTA for " + stamps, x.quota(0, 0, 0), Math.min(6, stamps));
            Due.is("differences for " + stamps, x.quota(0, 0, 1), Math.max(0, stamps - 6));
        }
    }

    private static void quotaWithoutPlaces() {
        WordLeash x = sixOnTheFirstDay();
        Due.is("MISSING", x.quota(0, 0, 0), NOTHING);
        for (int sort = 0; sort <= 1; sort++) {
            x.sheet(0, sort, 0);
            Due.is("no places: QUOTA", x.quota(0, 0, 0), 0);
            Due.is("no places: differences", x.quota(0, 0, 1), 0);
        }
    }

    private static void quotaAtPlace0IsNow() {
        WordLeash x = sixOnTheFirstDay();
        x.cross(0, 1);
        x.cross(1, 1);
        x.sheet(0, 0, 1);
        for (int told = 0; told <= 4; told++) {
            x.mark(0, 0, told);
            Due.is("STAMPS of now", x.quota(0, 0, 1), Math.abs(told - 2));
            Due.is("any QUOTA: the least", x.quota(0, 0, 0), 0);
        }
    }

    private static void quotaLeavesSignsOut() {
        WordLeash x = sixOnTheFirstDay();
        x.sheet(0, 1, 3);
        x.mark(0, 0, 5);
        x.mark(0, 1, -5);
        x.mark(0, 2, -99999);
        Due.is("none is best", x.quota(0, 0, 0), 0);
        Due.is("5, 5 and 99999", x.quota(0, 0, 1), 100009);
        x.mark(0, 1, 99999);
        x.mark(0, 2, 99999);
        Due.is("six are best", x.quota(0, 0, 0), 6);
        Due.is("5, 99993 and 99993", x.quota(0, 0, 1), 199991);
    }

    private static void quotaOfSeveralIsTheLeast() {
        WordLeash x = sixOnTheFirstDay();
        x.sheet(0, 0, 2);
        x.mark(0, 1, 100);
        Due.is("six and more are alike", x.quota(0, 0, 0), 6);
        Due.is("what is missing", x.quota(0, 0, 1), 94);
        x.sheet(0, 0, 3);
        x.mark(0, 1, 2);
        x.mark(0, 2, 4);
        Due.is("two a day", x.quota(0, 0, 0), twoADay(x));
    }

    /** QUOTA 2 brings two on the first day; of the others half a chance each, the first of those that is least. */
    private static int twoADay(WordLeash x) {
        int best = 0;
        int least = Integer.MAX_VALUE;
        x.keep();
        for (int quota = 0; quota <= 20; quota++) {
            x.set(0, 3, quota);
            x.days(1);
            int together = Math.abs(x.told(0, 4) - 2);
            x.days(1);
            together += Math.abs(x.told(0, 4) - 4);
            x.back();
            if (together < least) {
                least = together;
                best = quota;
            }
        }
        return best;
    }

    private static void quotaWithoutTravellers() {
        WordLeash x = with(0, word(1, 1));
        x.sheet(0, 0, 24);
        x.mark(0, 23, 3);
        Due.is("none comes: QUOTA", x.quota(0, 0, 0), 0);
        Due.is("none comes: differences", x.quota(0, 0, 1), 3);
    }

    private static void quotaPassesOverNoNumber() {
        WordLeash x = sixOnTheFirstDay();
        x.sheet(0, 1, 3);
        x.mark(0, 0, NONE);
        x.mark(0, 1, 4);
        x.mark(0, 2, NONE);
        Due.is("the day behind it counts as ever", x.quota(0, 0, 0), 4);
        Due.is("no differences", x.quota(0, 0, 1), 0);
        x.mark(0, 1, NONE);
        Due.is("no numbers: QUOTA", x.quota(0, 0, 0), 0);
        Due.is("no numbers: differences", x.quota(0, 0, 1), 0);
    }

    private static void quotaCountsPlace23() {
        WordLeash x = sixOnTheFirstDay();
        x.sheet(0, 0, 24);
        for (int k = 1; k <= 22; k++) {
            x.mark(0, k, 6);
        }
        x.mark(0, 23, 7);
        Due.is("six on the first day", x.quota(0, 0, 0), 6);
        Due.is("one is missing on the last", x.quota(0, 0, 1), 1);
    }

    private static void quotaOfOneWordAlone() {
        WordLeash x = sixOnTheFirstDay();
        x.set(0, 3, 0);
        x.sheet(0, 0, 2);
        x.mark(0, 1, 3);
        Due.is("its own QUOTA is not asked", x.quota(0, 0, 0), 3);
        Due.is("its own QUOTA stays", x.told(0, 3), 0);
        x.rule(0, 1);
        x.set(1, 3, 0);
        Due.is("THE MAN turns in thought, too", x.quota(0, 0, 1), 2);
        x.rule(0, 2);
        Due.is("and not by a WORD that stays out", x.quota(0, 0, 1), 0);
    }

    private static void quotaStartsWithTheNextDay() {
        WordLeash x = sixOnTheFirstDay();
        x.cross(5, 1);
        x.gives(5, 0);
        x.sheet(0, 0, 2);
        x.mark(0, 0, 1);
        x.mark(0, 1, 2);
        Due.is("TODAY of now does not count then", x.quota(0, 0, 0), 1);
        Due.is("no differences", x.quota(0, 0, 1), 0);
    }
}
