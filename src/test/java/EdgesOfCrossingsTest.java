/** The bounds that "Terms" names in section 2, a sentence each. */
public final class EdgesOfCrossingsTest {
    private static final int MOST = Integer.MAX_VALUE, LEAST = Integer.MIN_VALUE;

    public static void main(String[] args) {
        aRestOfCatchOrMoreComesIn();
        catch100HearsAll();
        catch0HearsNone();
        onlyHumsAreDrawn();
        aHeardHumGoesByItsQuota();
        todayBelowQuotaComesIn();
        noQuotaNoStamp();
        ninetyNineOfNinetyNine();
        todayAboveQuotaStaysOut();
        turnedByThen();
        turnedByTheLastOne();
        turnedHumsAreNotDrawn();
        learntTwiceIsLearntOnce();
        learntIsToldOfEachWord();
        costsAreThoseAheadOfTheStamp();
        whatIsHeldIsPassedOver();
        aDayStartsWithTodayZero();
        aDayDrawsForEachTraveller();
        aDayTakesTenBits();
        aDayTakesOnlyWordsThatThereAre();
        aDayWithoutWords();
        aDayWithoutTravellers();
        zWrapsAsAnInt();
        drawsGoByZWithoutItsSign();
        eachNumberCanBeDrawn();
        zIsAnyInt();
        Due.end("EdgesOfCrossingsTest");
    }

    /** z * 1103515245 + 12345, cut to 32 bits without any int that wraps. */
    private static int next(int z) {
        long low = Math.floorMod((z & 0xFFFFFFFFL) * 1103515245L + 12345L, 1L << 32);
        return (int) low;
    }

    private static int drawn(int z) {
        return (int) ((z & 0xFFFFFFFFL) / 256);
    }

    /** A seed with which the first draw leaves a rest. */
    private static int seedOf(int by, int rest) {
        int seed = 0;
        while (drawn(next(seed)) % by != rest) {
            seed++;
        }
        return seed;
    }

    private static WordLeash with(int travellers, int[]... words) {
        WordLeash x = new WordLeash();
        for (int[] w : words) {
            x.word(w[0], 1, w[1], w[2]);
        }
        for (int i = 0; i < travellers; i++) {
            x.traveller();
        }
        return x;
    }

    private static void aRestOfCatchOrMoreComesIn() {
        for (int rest : new int[] {0, 1, 49, 50, 51, 98, 99}) {
            int seed = seedOf(100, rest);
            for (int caught : new int[] {0, rest, rest + 1, 50, 100}) {
                for (int kind : new int[] {2, 4}) {
                    WordLeash x = with(1, new int[] {kind, 10, 5});
                    x.seed(seed);
                    x.rule(1, caught);
                    Due.is("comes in, heard or not", x.cross(0, 1), 1);
                    Due.is("rest " + rest + ", CATCH " + caught, x.told(0, 4), rest >= caught ? 0 : 1);
                    Due.is("TODAY", x.told(0, 5), rest >= caught ? 0 : 1);
                    Due.is("LEARNT", x.man(0), rest >= caught ? 0 : 1);
                    Due.is("one draw", x.count(10), next(seed));
                }
            }
        }
    }

    private static void catch100HearsAll() {
        for (int seed = 0; seed < 300; seed++) {
            WordLeash x = with(1, new int[] {2, 10, 0});
            x.seed(seed);
            x.rule(1, 100);
            Due.is("none comes in unheard", x.cross(0, 1), 0);
        }
    }

    private static void catch0HearsNone() {
        for (int seed = 0; seed < 300; seed++) {
            WordLeash x = with(1, new int[] {2, 10, 9});
            x.seed(seed);
            x.rule(1, 0);
            Due.is("all come in", x.cross(0, 1), 1);
            Due.is("unheard", x.told(0, 4), 0);
        }
    }

    private static void onlyHumsAreDrawn() {
        for (int kind = 0; kind < 6; kind++) {
            WordLeash x = with(1, new int[] {kind, 10, 5});
            x.cross(0, 1);
            Due.is("a draw for KIND " + kind, x.count(10), kind == 2 || kind == 4 ? next(1) : 1);
        }
    }

    private static void aHeardHumGoesByItsQuota() {
        WordLeash x = with(3, new int[] {2, 10, 1}, new int[] {4, 10, 1});
        x.rule(1, 100);
        Due.is("heard, with QUOTA", x.cross(0, 3), 3);
        Due.is("PAID half, and half less 2", x.travels(0, 1), 8);
        Due.is("heard, QUOTA used up", x.cross(1, 3), 0);
        Due.is("drawn each time", x.count(10), next(next(next(next(1)))));
    }

    private static void todayBelowQuotaComesIn() {
        for (int quota = 0; quota <= 6; quota++) {
            for (int kind : new int[] {0, 1, 3, 5}) {
                WordLeash x = with(6, new int[] {kind, 10, quota});
                for (int i = 0; i < 6; i++) {
                    Due.is("the " + i + "th of " + quota, x.cross(i, 1), i < quota ? 1 : 0);
                    Due.is("holds it", x.travels(i, 0), i < quota ? 1 : 0);
                    Due.is("TODAY", x.told(0, 5), Math.min(quota, i + 1));
                    Due.is("STAMPS", x.told(0, 4), Math.min(quota, i + 1));
                }
            }
        }
    }

    private static void noQuotaNoStamp() {
        WordLeash x = with(1, new int[] {0, 10, 0});
        Due.is("stays out", x.cross(0, 1), 0);
        Due.is("PAID", x.travels(0, 1), 0);
        Due.is("HOLDS", x.travels(0, 0), 0);
        Due.is("STAMPS", x.told(0, 4), 0);
        Due.is("LEARNT", x.man(0), 0);
    }

    private static void ninetyNineOfNinetyNine() {
        WordLeash x = with(1, new int[] {0, 1, 99});
        for (int i = 0; i < 99; i++) {
            Due.is("comes in", x.cross(0, 1), 1);
            x.gives(0, 0);
        }
        Due.is("TODAY", x.told(0, 5), 99);
        Due.is("the hundredth", x.cross(0, 1), 0);
        Due.is("PAID", x.travels(0, 1), 99);
    }

    private static void todayAboveQuotaStaysOut() {
        WordLeash x = with(3, new int[] {0, 10, 9});
        x.cross(0, 1);
        x.cross(1, 1);
        x.set(0, 3, 1);
        Due.is("TODAY is above QUOTA", x.cross(2, 1), 0);
        x.set(0, 3, 2);
        Due.is("TODAY is QUOTA", x.cross(2, 1), 0);
        x.set(0, 3, 3);
        Due.is("TODAY is below QUOTA", x.cross(2, 1), 1);
    }

    private static void turnedByThen() {
        for (int patience = 1; patience <= 10; patience++) {
            WordLeash x = new WordLeash();
            for (int i = 0; i < 10; i++) {
                x.word(0, 1, 1, 1);
            }
            x.traveller();
            x.rule(0, patience);
            Due.is("all come in", x.cross(0, 1023), 1023);
            Due.is("LEARNT up to PATIENCE", x.man(0), (1 << patience) - 1);
            Due.is("PAID up to PATIENCE", x.travels(0, 1), patience);
            Due.is("STAMPS up to PATIENCE", x.count(6), patience);
        }
    }

    private static void turnedByTheLastOne() {
        WordLeash x = with(1, new int[] {0, 10, 0}, new int[] {0, 10, 1});
        x.rule(0, 1);
        Due.is("not by the one ahead", x.cross(0, 3), 2);
        Due.is("once more", x.cross(0, 3), 1);
        Due.is("TURNED: no stamp", x.told(0, 4), 0);
        Due.is("HOLDS both", x.travels(0, 0), 3);
    }

    private static void turnedHumsAreNotDrawn() {
        WordLeash x = with(2, new int[] {2, 10, 1}, new int[] {0, 10, 1}, new int[] {4, 10, 1});
        x.rule(0, 1);
        x.rule(1, 100);
        x.gives(0, 1);
        Due.is("both come in", x.cross(0, 6), 6);
        Due.is("no draw behind the one that turned him", x.count(10), 1);
        Due.is("no draw later", x.cross(1, 7), 7);
        Due.is("z stays", x.count(10), 1);
        Due.is("nothing PAID", x.travels(1, 1), 0);
    }

    private static void learntTwiceIsLearntOnce() {
        WordLeash x = with(3, new int[] {0, 10, 9});
        x.rule(0, 2);
        for (int i = 0; i < 3; i++) {
            Due.is("comes in", x.cross(i, 1), 1);
            Due.is("LEARNT", x.man(0), 1);
            Due.is("not TURNED", x.man(1), 0);
        }
        Due.is("three STAMPS", x.told(0, 4), 3);
        Due.is("forgets one", x.forget(), 1);
        Due.is("forgets none", x.forget(), 0);
    }

    private static void learntIsToldOfEachWord() {
        for (int word = 0; word < 10; word++) {
            WordLeash x = new WordLeash();
            for (int i = 0; i < 10; i++) {
                x.word(0, 1, 1, 1);
            }
            x.traveller();
            x.cross(0, 1 << word);
            for (int i = 0; i < 10; i++) {
                Due.is("LEARNT of " + i + ", " + word + " came", x.told(i, 8), i == word ? 1 : 0);
            }
        }
    }

    private static void costsAreThoseAheadOfTheStamp() {
        WordLeash x = with(3, new int[] {1, 10, 2}, new int[] {0, 10, 9});
        Due.text(x, "duty d+t*100");
        x.cross(0, 1);
        Due.is("none ahead", x.travels(0, 1), 10);
        x.cross(1, 1);
        Due.is("one ahead", x.travels(1, 1), 220);
        x.cross(0, 2);
        x.cross(1, 2);
        x.cross(2, 2);
        Due.is("two ahead", x.travels(2, 1), 210);
    }

    private static void whatIsHeldIsPassedOver() {
        WordLeash x = with(1, new int[] {2, 10, 0}, new int[] {0, 10, 9}, new int[] {0, 7, 9});
        x.gives(0, 3);
        Due.is("only the third", x.cross(0, 7), 4);
        Due.is("PAID for the third", x.travels(0, 1), 7);
        Due.is("HOLDS all", x.travels(0, 0), 7);
        Due.is("nothing more", x.cross(0, 7), 0);
        Due.is("no draw", x.count(10), 1);
    }

    private static void aDayStartsWithTodayZero() {
        WordLeash x = with(1, new int[] {0, 10, 1}, new int[] {0, 10, 1});
        x.cross(0, 3);
        x.gives(0, 0);
        x.seed(seedOf(1024, 1));
        Due.is("one STAMP more", x.days(1), 1);
        Due.is("TODAY of the one that came", x.told(0, 5), 1);
        Due.is("TODAY of the one that did not", x.told(1, 5), 0);
        Due.is("STAMPS stay", x.told(1, 4), 1);
    }

    private static void aDayDrawsForEachTraveller() {
        for (int travellers = 0; travellers <= 6; travellers++) {
            WordLeash x = with(travellers, new int[] {0, 1, 99});
            int z = 1;
            int came = 0;
            for (int i = 0; i < travellers; i++) {
                z = next(z);
                came += drawn(z) % 1024 & 1;
            }
            Due.is("STAMPS of the day", x.days(1), came);
            Due.is("a draw each", x.count(10), z);
        }
    }

    private static void aDayTakesTenBits() {
        for (int rest : new int[] {0, 1, 512, 1023, 682, 341}) {
            WordLeash x = new WordLeash();
            for (int i = 0; i < 10; i++) {
                x.word(0, 1, 1, 1);
            }
            x.traveller();
            x.seed(seedOf(1024, rest));
            x.days(1);
            Due.is("the set of its rest by 1024", x.travels(0, 0), rest);
        }
    }

    private static void aDayTakesOnlyWordsThatThereAre() {
        for (int words = 0; words <= 10; words++) {
            WordLeash x = new WordLeash();
            for (int i = 0; i < words; i++) {
                x.word(0, 1, 1, 1);
            }
            x.traveller();
            x.seed(seedOf(1024, 1023));
            Due.is("a STAMP each, up to PATIENCE", x.days(1), Math.min(6, words));
            Due.is("all that there are", x.travels(0, 0), (1 << words) - 1);
        }
    }

    private static void aDayWithoutWords() {
        WordLeash x = with(2);
        Due.is("no STAMPS", x.days(3), 0);
        int z = 1;
        for (int i = 0; i < 6; i++) {
            z = next(z);
        }
        Due.is("drawn all the same", x.count(10), z);
    }

    private static void aDayWithoutTravellers() {
        WordLeash x = with(0, new int[] {2, 1, 9});
        Due.is("no STAMPS", x.days(60), 0);
        Due.is("no draws", x.count(10), 1);
        Due.is("the days pass", x.count(2), 60);
    }

    private static void zWrapsAsAnInt() {
        for (int seed : new int[] {0, 1, -1, 2, 77, MOST, LEAST, LEAST + 1, 1 << 30, -(1 << 30), 123456789, -987654321}) {
            WordLeash x = with(1, new int[] {0, 1, 1});
            x.seed(seed);
            x.days(1);
            Due.is("z behind " + seed, x.count(10), next(seed));
        }
    }

    private static void drawsGoByZWithoutItsSign() {
        int below = 0;
        for (int seed = 0; seed < 40; seed++) {
            WordLeash x = new WordLeash();
            x.seed(seed);
            x.deal(1);
            int z = next(seed);
            below += z < 0 ? 1 : 0;
            Due.is("KIND", x.told(0, 0), drawn(z) % 6);
            z = next(z);
            Due.is("SENSES", x.told(0, 1), 1 + drawn(z) % 255);
            z = next(z);
            Due.is("DUTY", x.told(0, 2), drawn(z) % 50);
            z = next(z);
            Due.is("QUOTA", x.told(0, 3), drawn(z) % 10);
            Due.is("four draws", x.count(10), z);
        }
        Due.holds("some z were below 0, some not", below > 5 && below < 35);
    }

    private static void eachNumberCanBeDrawn() {
        boolean[][] seen = {new boolean[6], new boolean[256], new boolean[50], new boolean[10]};
        for (int seed = 0; seed < 400; seed++) {
            WordLeash x = new WordLeash();
            x.seed(seed * 7919);
            x.deal(10);
            for (int word = 0; word < 10; word++) {
                for (int what = 0; what < 4; what++) {
                    seen[what][x.told(word, what)] = true;
                }
            }
        }
        Due.holds("no SENSES are empty", !seen[1][0]);
        for (int what = 0; what < 4; what++) {
            for (int v = what == 1 ? 1 : 0; v < seen[what].length; v++) {
                Due.holds("drawn " + what + ": " + v, seen[what][v]);
            }
        }
    }

    private static void zIsAnyInt() {
        WordLeash x = new WordLeash();
        Due.is("z at first", x.count(10), 1);
        int was = 1;
        for (int v : new int[] {LEAST, MOST, 0, -1, WordLeash.BAD, WordLeash.NONE, 1}) {
            Due.is("z was", x.seed(v), was);
            Due.is("z is", x.count(10), v);
            was = v;
        }
    }
}
