/** Promises 13 to 16: the border. */
public final class BorderTest {
    private static final int BAD = WordLeash.BAD;
    private static final int MOST = Integer.MAX_VALUE, LEAST = Integer.MIN_VALUE;

    public static void main(String[] args) {
        quotasStop();
        whatIsHeldDoesNotCross();
        theManTurnsMidway();
        theHumIsDrawn();
        catchAtItsEdges();
        crossWrong();
        promise14();
        promise15();
        aDayGoesByLot();
        daysCountStamps();
        daysEndAtTheLast();
        daysWrong();
        Due.end("BorderTest");
    }

    private static int next(int z) {
        return z * 1103515245 + 12345;
    }

    private static void quotasStop() {
        WordLeash x = new WordLeash();
        x.word(0, 1, 10, 2);
        x.word(0, 2, 5, 0);
        x.word(5, 2, 5, 1);
        for (int i = 0; i < 4; i++) {
            x.traveller();
        }
        Due.is("the first", x.cross(0, 7), 5);
        Due.is("the second: FREE has its QUOTA, too", x.cross(1, 7), 1);
        Due.is("the third", x.cross(2, 7), 0);
        Due.is("STAMPS", x.told(0, 4), 2);
        Due.is("TODAY", x.told(0, 5), 2);
        Due.is("paid", x.travels(1, 1), 10);
        Due.is("nothing paid", x.travels(2, 1), 0);
        Due.is("holds nothing", x.travels(2, 0), 0);
        Due.is("LEARNT once", x.man(0), 5);
        Due.is("an empty set", x.cross(3, 0), 0);
        x.set(0, 3, 3);
        Due.is("with more QUOTA", x.cross(2, 7), 1);
        Due.is("no draws without a hum", x.count(10), 1);
    }

    private static void whatIsHeldDoesNotCross() {
        WordLeash x = new WordLeash();
        x.word(0, 1, 10, 9);
        x.word(2, 1, 10, 9);
        x.traveller();
        x.gives(0, 3);
        Due.is("held", x.cross(0, 3), 0);
        Due.is("no draw for what is held", x.count(10), 1);
        Due.is("no stamp for what is held", x.count(6), 0);
        x.gives(0, 2);
        Due.is("only what is not held", x.cross(0, 3), 1);
        Due.is("holds both", x.travels(0, 0), 3);
    }

    private static void theManTurnsMidway() {
        WordLeash x = new WordLeash();
        for (int i = 0; i < 4; i++) {
            x.word(i == 3 ? 2 : 0, 1, 10, i == 1 ? 0 : 1);
        }
        x.traveller();
        x.traveller();
        x.rule(0, 2);
        Due.is("words 0 and 2 are stamped, 3 walks in", x.cross(0, 15), 13);
        Due.is("paid two", x.travels(0, 1), 20);
        Due.is("no draw once he is TURNED", x.count(10), 1);
        Due.is("LEARNT two", x.man(0), 5);
        Due.is("all walk in, without QUOTA", x.cross(1, 15), 15);
        Due.is("nothing paid", x.travels(1, 1), 0);
        Due.is("no stamps", x.count(6), 2);
        x.rule(0, 3);
        x.gives(1, 0);
        x.rule(1, 100);
        Due.is("not TURNED: by QUOTA; the last one turns none behind", x.cross(1, 15), 8);
        Due.is("TURNED again", x.man(1), 1);
    }

    private static void theHumIsDrawn() {
        for (int seed = 0; seed < 60; seed++) {
            WordLeash x = new WordLeash();
            x.word(2, 1, 10, 1);
            x.word(1, 1, 10, 1);
            x.word(4, 1, 10, 1);
            x.traveller();
            x.seed(seed);
            x.rule(1, 40);
            int first = next(seed);
            int second = next(first);
            boolean slips = (first >>> 8) % 100 >= 40;
            boolean slipsToo = (second >>> 8) % 100 >= 40;
            Due.is("all come in", x.cross(0, 7), 7);
            Due.is("two draws", x.count(10), second);
            Due.is("stamped, if heard", x.told(0, 4), slips ? 0 : 1);
            Due.is("stamped, if heard, too", x.told(2, 4), slipsToo ? 0 : 1);
            Due.is("LEARNT, if heard", x.man(0), 2 + (slips ? 0 : 1) + (slipsToo ? 0 : 4));
            Due.is("paid, if heard", x.travels(0, 1), 20 + (slips ? 0 : 5) + (slipsToo ? 0 : 3));
        }
    }

    private static void catchAtItsEdges() {
        int rest = (next(1) >>> 8) % 100;
        WordLeash x = new WordLeash();
        x.word(2, 1, 10, 1);
        x.traveller();
        x.rule(1, rest);
        Due.is("just at CATCH", x.cross(0, 1), 1);
        Due.is("came unheard", x.count(6), 0);
        x.gives(0, 0);
        x.seed(1);
        x.rule(1, rest + 1);
        Due.is("just below CATCH", x.cross(0, 1), 1);
        Due.is("was heard", x.count(6), 1);
        x.gives(0, 0);
        x.seed(1);
        Due.is("heard, and no QUOTA", x.cross(0, 1), 0);
        Due.is("drawn all the same", x.count(10), next(1));
        x.rule(1, 0);
        Due.is("CATCH 0: never heard", x.cross(0, 1), 1);
        Due.is("drawn with CATCH 0", x.count(10), next(next(1)));
    }

    private static void crossWrong() {
        WordLeash x = new WordLeash();
        x.word(0, 1, 10, 9);
        x.word(2, 1, 10, 9);
        x.traveller();
        long[] before = Due.counts(x);
        int[][] wrong = {{1, 1}, {-1, 1}, {0, 4}, {0, 7}, {0, -1}, {0, LEAST}, {0, MOST}, {MOST, 1}, {LEAST, 1}};
        for (int[] w : wrong) {
            Due.is("cross wrong", x.cross(w[0], w[1]), BAD);
        }
        Due.same("cross wrong", x, before);
    }

    private static void promise14() {
        WordLeash x = new WordLeash();
        for (int i = 0; i < 10; i++) {
            x.word(0, 1, 1, 1);
        }
        x.traveller();
        for (int i = 0; i < 6; i++) {
            Due.is("not TURNED with " + i, x.man(1), 0);
            x.cross(0, 1 << 2 * i % 10 + i / 5);
        }
        Due.is("LEARNT", x.man(0), 343);
        Due.is("TURNED with six", x.man(1), 1);
        x.rule(0, 7);
        Due.is("PATIENCE above", x.man(1), 0);
        for (int what : new int[] {-1, 2, MOST, LEAST}) {
            Due.is("man wrong", x.man(what), BAD);
        }
    }

    private static void promise15() {
        WordLeash x = new WordLeash();
        Due.is("nothing to forget", x.forget(), 0);
        x.word(0, 1, 1, 1);
        x.word(0, 1, 1, 1);
        x.traveller();
        x.rule(0, 2);
        x.cross(0, 3);
        Due.is("forgets two", x.forget(), 2);
        Due.is("LEARNT none", x.man(0), 0);
        Due.is("not TURNED", x.man(1), 0);
        Due.is("holds all still", x.travels(0, 0), 3);
        Due.is("stamps stay", x.count(6), 2);
    }

    private static void aDayGoesByLot() {
        WordLeash x = new WordLeash();
        for (int i = 0; i < 3; i++) {
            x.word(0, 1, 10 * i, 1);
        }
        x.traveller();
        x.traveller();
        x.seed(9);
        int first = next(9);
        int second = next(first);
        int one = (first >>> 8) % 1024 & 7;
        int two = (second >>> 8) % 1024 & 7;
        int stamps = Integer.bitCount(one | two);
        Due.is("stamps of a day", x.days(1), stamps);
        Due.is("a draw a traveller", x.count(10), second);
        Due.is("the first holds", x.travels(0, 0), one);
        Due.is("the second holds what is left", x.travels(1, 0), two & ~one);
        Due.is("a day more", x.count(2), 1);
        int before = x.told(0, 5) + x.told(1, 5) + x.told(2, 5);
        Due.is("TODAY stays behind it", before, stamps);
        x.gives(0, 7);
        x.gives(1, 7);
        Due.is("a day with nothing to bring", x.days(1), 0);
        Due.is("TODAY is 0 then", x.told(0, 5) + x.told(1, 5) + x.told(2, 5), 0);
    }

    private static void daysCountStamps() {
        WordLeash x = new WordLeash();
        Due.is("no travellers", x.days(60), 0);
        Due.is("no draws", x.count(10), 1);
        x.deal(10);
        x.traveller();
        x.traveller();
        x.traveller();
        int before = x.count(6);
        int came = x.days(20);
        Due.is("STAMPS more", x.count(6) - before, came);
        Due.holds("some stamps", came > 0);
        Due.is("days", x.count(2), 80);
        WordLeash y = new WordLeash();
        y.days(60);
        y.deal(10);
        y.traveller();
        y.traveller();
        y.traveller();
        for (int i = 0; i < 20; i++) {
            y.days(1);
        }
        Due.is("one by one: PAID", y.count(5), x.count(5));
        Due.is("one by one: STAMPS", y.count(6), x.count(6));
        Due.is("one by one: z", y.count(10), x.count(10));
    }

    private static void daysEndAtTheLast() {
        WordLeash x = new WordLeash();
        for (int i = 0; i < 166; i++) {
            x.days(60);
        }
        x.days(30);
        Due.is("day 9990", x.count(2), 9990);
        x.traveller();
        x.days(60);
        Due.is("no more than 9999", x.count(2), 9999);
        int z = 1;
        for (int i = 0; i < 9; i++) {
            z = next(z);
        }
        Due.is("nine days passed", x.count(10), z);
        Due.is("none behind it", x.days(1), 0);
        Due.is("day 9999", x.count(2), 9999);
        Due.is("z stays", x.count(10), z);
        Due.is("wrong at the end", x.days(61), BAD);
    }

    private static void daysWrong() {
        WordLeash x = new WordLeash();
        x.traveller();
        for (int n : new int[] {0, -1, 61, MOST, LEAST}) {
            Due.is("days wrong", x.days(n), BAD);
        }
        Due.is("no day", x.count(2), 0);
        Due.is("no draw", x.count(10), 1);
        Due.is("sixty", x.days(60), 0);
        Due.is("sixty days", x.count(2), 60);
    }
}
