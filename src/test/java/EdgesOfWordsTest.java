import java.util.function.IntUnaryOperator;

/** The bounds that "Terms" names in section 1, a sentence each. */
public final class EdgesOfWordsTest {
    private static final int BAD = WordLeash.BAD, FULL = WordLeash.FULL;
    private static final int MOST = Integer.MAX_VALUE, LEAST = Integer.MIN_VALUE;

    public static void main(String[] args) {
        tenWordsAtMost();
        tenWordsAtMostWhereWordsAreDrawn();
        wordsAreNumberedFromZero();
        sensesAre1To255();
        dutyIs0To99();
        quotaIs0To99();
        kindsAre0To5();
        stampsAndTodayAreZeroAtFirst();
        sixTravellersAtMost();
        travellersHoldNothingAtFirst();
        patienceIs1To10();
        turnedByAsManyAsPatienceOrMore();
        catchIs0To100();
        theDayIs9999AtMost();
        whatDutyGivesIsHeldWithin0And999();
        withoutATextItIsDuty();
        verbsCostTwiceFromHalfOfQuotaOn();
        verbsCostTwiceWithoutQuota();
        verbsCostTwiceBeyondQuota();
        humsCostHalfCut();
        driedCostNothingAtLeast();
        freeCostNothing();
        worthOfEachDuty();
        worthOfFreeCountsSenses();
        setsOfWordsHaveNoOtherBits();
        Due.end("EdgesOfWordsTest");
    }

    private static WordLeash with(int words, int travellers) {
        WordLeash x = new WordLeash();
        for (int i = 0; i < words; i++) {
            x.word(0, 1, 10, 9);
        }
        for (int i = 0; i < travellers; i++) {
            x.traveller();
        }
        return x;
    }

    private static void within(String what, IntUnaryOperator call, int least, int most) {
        for (int v : new int[] {least - 1, most + 1, LEAST, MOST, least - 256, most + 65536, least + (1 << 16)}) {
            Due.is(what + " " + v, call.applyAsInt(v), BAD);
        }
        for (int v : new int[] {least, most, (least + most) / 2}) {
            Due.holds(what + " " + v, call.applyAsInt(v) >= 0);
        }
    }

    private static void tenWordsAtMost() {
        WordLeash x = with(9, 0);
        Due.is("the tenth", x.word(0, 1, 0, 0), 9);
        Due.is("the eleventh", x.word(0, 1, 0, 0), FULL);
        Due.is("words", x.count(0), 10);
        Due.is("the tenth is told", x.told(9, 1), 1);
        Due.is("an eleventh is not", x.told(10, 1), BAD);
    }

    private static void tenWordsAtMostWhereWordsAreDrawn() {
        for (int had = 0; had <= 10; had++) {
            for (int n = 1; n <= 10; n++) {
                WordLeash x = with(had, 0);
                Due.is(n + " drawn beside " + had, x.deal(n), Math.min(n, 10 - had));
                Due.is("words then", x.count(0), Math.min(10, had + n));
                WordLeash y = new WordLeash();
                y.deal(Math.max(1, Math.min(n, 10 - had)));
                Due.is("draws for them alone", x.count(10), had == 10 ? 1 : y.count(10));
            }
        }
    }

    private static void wordsAreNumberedFromZero() {
        WordLeash x = new WordLeash();
        for (int i = 0; i < 10; i++) {
            Due.is("not there yet", x.told(i, 2), BAD);
            Due.is("its number", x.word(0, 1, i, 0), i);
            Due.is("it is there", x.told(i, 2), i);
        }
        Due.is("none below", x.told(-1, 2), BAD);
    }

    private static void sensesAre1To255() {
        within("SENSES", v -> with(0, 0).word(0, v, 1, 1), 1, 255);
        within("SENSES set", v -> with(1, 0).set(0, 1, v), 1, 255);
        for (int v = 1; v <= 255; v++) {
            WordLeash x = new WordLeash();
            x.word(0, v, 0, 0);
            Due.is("SENSES told", x.told(0, 1), v);
            x.set(0, 1, 256 - v);
            Due.is("SENSES set and told", x.told(0, 1), 256 - v);
        }
    }

    private static void dutyIs0To99() {
        within("DUTY", v -> with(0, 0).word(0, 1, v, 1), 0, 99);
        within("DUTY set", v -> with(1, 0).set(0, 2, v), 0, 99);
        for (int v = 0; v <= 99; v++) {
            WordLeash x = new WordLeash();
            x.word(0, 1, v, 0);
            Due.is("DUTY told", x.told(0, 2), v);
            x.set(0, 2, 99 - v);
            Due.is("DUTY set and told", x.told(0, 2), 99 - v);
        }
    }

    private static void quotaIs0To99() {
        within("QUOTA", v -> with(0, 0).word(0, 1, 1, v), 0, 99);
        within("QUOTA set", v -> with(1, 0).set(0, 3, v), 0, 99);
        for (int v = 0; v <= 99; v++) {
            WordLeash x = new WordLeash();
            x.word(0, 1, 0, v);
            Due.is("QUOTA told", x.told(0, 3), v);
            x.set(0, 3, 99 - v);
            Due.is("QUOTA set and told", x.told(0, 3), 99 - v);
        }
    }

    private static void kindsAre0To5() {
        within("KIND", v -> with(0, 0).word(v, 1, 1, 1), 0, 5);
        within("KIND turned to", v -> with(1, 0).turns(0, v), 0, 5);
        WordLeash x = with(1, 0);
        x.lay(0, 1, 0);
        for (int kind : new int[] {-1, 6, MOST, LEAST}) {
            Due.is("asked for KIND " + kind, x.ask(0, kind), BAD);
            Due.is("as KIND " + kind, x.as(0, kind), BAD);
        }
    }

    private static void stampsAndTodayAreZeroAtFirst() {
        WordLeash x = new WordLeash();
        x.word(1, 1, 1, 1);
        x.deal(9);
        for (int i = 0; i < 10; i++) {
            Due.is("STAMPS at first", x.told(i, 4), 0);
            Due.is("TODAY at first", x.told(i, 5), 0);
            Due.is("LEARNT at first", x.told(i, 8), 0);
        }
    }

    private static void sixTravellersAtMost() {
        WordLeash x = with(0, 5);
        Due.is("no sixth yet", x.travels(5, 0), BAD);
        Due.is("the sixth", x.traveller(), 5);
        Due.is("the seventh", x.traveller(), FULL);
        Due.is("travellers", x.count(1), 6);
        Due.is("the sixth is told", x.travels(5, 0), 0);
        Due.is("a seventh is not", x.travels(6, 0), BAD);
        Due.is("none below", x.travels(-1, 0), BAD);
    }

    private static void travellersHoldNothingAtFirst() {
        WordLeash x = with(10, 0);
        for (int i = 0; i < 6; i++) {
            x.traveller();
            Due.is("holds none", x.travels(i, 0), 0);
            Due.is("paid nothing", x.travels(i, 1), 0);
            Due.is("comes with all", x.cross(i, 1023), 1023);
        }
    }

    private static void patienceIs1To10() {
        WordLeash x = new WordLeash();
        Due.is("at first", x.count(3), 6);
        for (int v : new int[] {0, 11, -1, MOST, LEAST, 257}) {
            Due.is("PATIENCE " + v, x.rule(0, v), BAD);
            Due.is("as it was", x.count(3), 6);
        }
        int was = 6;
        for (int v = 1; v <= 10; v++) {
            Due.is("PATIENCE " + v, x.rule(0, v), was);
            Due.is("as it is", x.count(3), v);
            was = v;
        }
    }

    private static void turnedByAsManyAsPatienceOrMore() {
        for (int learnt = 0; learnt <= 10; learnt++) {
            WordLeash x = with(10, 1);
            x.rule(0, 10);
            x.cross(0, (1 << learnt) - 1);
            Due.is("LEARNT", x.man(0), (1 << learnt) - 1);
            for (int patience = 1; patience <= 10; patience++) {
                x.rule(0, patience);
                Due.is(learnt + " by " + patience, x.man(1), learnt >= patience ? 1 : 0);
                Due.is("TURNS BY", x.turnsBy() == 0 ? 1 : 0, learnt >= patience ? 1 : 0);
            }
        }
    }

    private static void catchIs0To100() {
        WordLeash x = new WordLeash();
        Due.is("at first", x.count(4), 50);
        for (int v : new int[] {-1, 101, MOST, LEAST, 256}) {
            Due.is("CATCH " + v, x.rule(1, v), BAD);
            Due.is("as it was", x.count(4), 50);
        }
        int was = 50;
        for (int v : new int[] {0, 100, 1, 99}) {
            Due.is("CATCH " + v, x.rule(1, v), was);
            Due.is("as it is", x.count(4), v);
            was = v;
        }
    }

    private static WordLeash onDay(int day) {
        WordLeash x = new WordLeash();
        for (int i = 0; i < day / 60; i++) {
            x.days(60);
        }
        if (day % 60 > 0) {
            x.days(day % 60);
        }
        return x;
    }

    private static void theDayIs9999AtMost() {
        Due.is("at first", new WordLeash().count(2), 0);
        int[][] due = {
            {9998, 1, 9999}, {9998, 2, 9999}, {9939, 60, 9999}, {9940, 60, 9999}, {9938, 60, 9998}, {9999, 1, 9999},
            {9999, 60, 9999}, {0, 1, 1}, {0, 60, 60}};
        for (int[] d : due) {
            WordLeash x = onDay(d[0]);
            Due.is("THE DAY", x.count(2), d[0]);
            x.word(0, 1, 1, 99);
            x.traveller();
            x.days(d[1]);
            Due.is("THE DAY, " + d[1] + " behind " + d[0], x.count(2), d[2]);
            int z = 1;
            for (int i = d[0]; i < d[2]; i++) {
                z = z * 1103515245 + 12345;
            }
            Due.is("a draw for each day that passed", x.count(10), z);
        }
        WordLeash x = onDay(9999);
        x.word(0, 1, 1, 9);
        x.traveller();
        x.cross(0, 1);
        Due.is("no STAMPS without days", x.days(60), 0);
        Due.is("TODAY stays without a day", x.told(0, 5), 1);
    }

    private static void whatDutyGivesIsHeldWithin0And999() {
        String[] texts = {"0", "1", "998", "999", "1000", "9999", "0-1", "0-9999", "0-0", "9999*9999", "9999*9999*9999",
            "8192*8192*32", "8192*8192*32-1", "0-8192*8192*32", "8192*8192*64"};
        int[] due = {0, 1, 998, 999, 999, 999, 0, 0, 0, 999, 9999 * 9999 * 9999 < 0 ? 0 : 999, 0, 999, 0, 0};
        for (int i = 0; i < texts.length; i++) {
            WordLeash x = new WordLeash();
            for (int kind = 0; kind < 6; kind++) {
                x.word(kind, 1, 50, 9);
            }
            Due.is("duty " + texts[i], Due.text(x, "duty " + texts[i]), 0);
            int half = due[i] / 2;
            int[] costs = {due[i], due[i], half, due[i] + 3, Math.max(0, half - 2), 0};
            for (int kind = 0; kind < 6; kind++) {
                Due.is("duty " + texts[i] + ", KIND " + kind, x.told(kind, 6), costs[kind]);
            }
        }
    }

    private static void withoutATextItIsDuty() {
        WordLeash x = new WordLeash();
        x.word(0, 1, 0, 9);
        x.word(0, 1, 99, 9);
        Due.is("DUTY 0", x.told(0, 6), 0);
        Due.is("DUTY 99", x.told(1, 6), 99);
        Due.text(x, "bill 5");
        Due.text(x, "fine 5");
        Due.text(x, "duty 5*");
        Due.is("no TEXT of duty yet", x.told(1, 6), 99);
        Due.text(x, "duty 5");
        Due.is("a TEXT of duty", x.told(1, 6), 5);
    }

    /** A WORD with a QUOTA, after so many came in today. */
    private static WordLeash afterToday(int kind, int quota, int today) {
        WordLeash x = new WordLeash();
        x.word(kind, 1, 10, quota);
        x.traveller();
        for (int i = 0; i < today; i++) {
            x.gives(0, 0);
            x.cross(0, 1);
        }
        Due.is("TODAY", x.told(0, 5), today);
        return x;
    }

    private static void verbsCostTwiceFromHalfOfQuotaOn() {
        for (int quota : new int[] {1, 2, 3, 4, 5, 8, 9, 98, 99}) {
            for (int today = Math.max(0, quota / 2 - 1); today <= Math.min(quota, quota / 2 + 1); today++) {
                int due = today >= quota / 2 ? 20 : 10;
                Due.is("VERB, " + today + " of " + quota, afterToday(1, quota, today).told(0, 6), due);
                Due.is("SIGH, " + today + " of " + quota, afterToday(3, quota, today).told(0, 6), due + 3);
            }
        }
    }

    private static void verbsCostTwiceWithoutQuota() {
        Due.is("VERB without QUOTA", afterToday(1, 0, 0).told(0, 6), 20);
        Due.is("SIGH without QUOTA", afterToday(3, 0, 0).told(0, 6), 23);
    }

    private static void verbsCostTwiceBeyondQuota() {
        WordLeash x = afterToday(1, 9, 4);
        x.set(0, 3, 2);
        Due.is("VERB beyond QUOTA", x.told(0, 6), 20);
        x.set(0, 3, 9);
        Due.is("VERB, 4 of 9", x.told(0, 6), 20);
        x.set(0, 3, 10);
        Due.is("VERB, 4 of 10", x.told(0, 6), 10);
        Due.is("WORD at its QUOTA", afterToday(0, 2, 2).told(0, 6), 10);
        Due.is("HUMMED is not asked for TODAY", humAtItsQuota().told(0, 6), 5);
    }

    private static WordLeash humAtItsQuota() {
        WordLeash x = new WordLeash();
        x.word(2, 1, 10, 1);
        x.traveller();
        x.rule(1, 100);
        x.cross(0, 1);
        Due.is("TODAY", x.told(0, 5), 1);
        return x;
    }

    private static WordLeash dutyOf(int kind, int duty) {
        WordLeash x = new WordLeash();
        x.word(kind, 1, duty, 9);
        return x;
    }

    private static void humsCostHalfCut() {
        for (int duty = 0; duty <= 99; duty++) {
            Due.is("HUMMED, DUTY " + duty, dutyOf(2, duty).told(0, 6), duty / 2);
        }
    }

    private static void driedCostNothingAtLeast() {
        int[] due = {0, 0, 0, 0, 0, 0, 1, 1, 2, 2};
        for (int duty = 0; duty < due.length; duty++) {
            Due.is("DRIED, DUTY " + duty, dutyOf(4, duty).told(0, 6), due[duty]);
        }
        Due.is("DRIED, DUTY 99", dutyOf(4, 99).told(0, 6), 47);
    }

    private static void freeCostNothing() {
        Due.is("FREE, DUTY 0", dutyOf(5, 0).told(0, 6), 0);
        Due.is("FREE, DUTY 99", dutyOf(5, 99).told(0, 6), 0);
        WordLeash x = dutyOf(5, 99);
        x.traveller();
        Due.is("comes in", x.cross(0, 1), 1);
        Due.is("for nothing", x.travels(0, 1), 0);
        Due.is("with a stamp", x.told(0, 4), 1);
    }

    private static void worthOfEachDuty() {
        for (int duty = 0; duty <= 99; duty++) {
            int[] due = {duty, duty + 6, 99 - duty, 2 * duty + 12, 94 - duty};
            for (int kind = 0; kind < due.length; kind++) {
                WordLeash x = dutyOf(kind, duty);
                Due.is("WORTH of KIND " + kind + ", DUTY " + duty, x.told(0, 7), due[kind]);
                x.lay(0, 1, 0);
                Due.is("asked in a SLOT", x.ask(0, 0), due[kind]);
            }
        }
    }

    private static void worthOfFreeCountsSenses() {
        for (int senses : new int[] {1, 2, 128, 3, 129, 254, 255}) {
            WordLeash x = dutyOf(5, 99);
            x.set(0, 1, senses);
            Due.is("WORTH of SENSES " + senses, x.told(0, 7), Integer.bitCount(senses));
        }
    }

    private static void setsOfWordsHaveNoOtherBits() {
        for (int words = 0; words <= 10; words++) {
            int all = (1 << words) - 1;
            for (int set : new int[] {all + 1, 2 * all + 1, -1, LEAST, MOST, 1 << 10, 1 << 30, LEAST | all}) {
                if (set == all) {
                    continue;
                }
                WordLeash x = with(words, 1);
                boolean fits = words > 0 && set >= 0 && set <= all;
                Due.is("gives " + set + " of " + words, x.gives(0, set), fits ? 0 : BAD);
                Due.is("cross " + set + " of " + words, x.cross(0, set), fits ? 0 : BAD);
            }
            Due.is("gives all of " + words, with(words, 1).gives(0, all), 0);
            Due.is("all of " + words + " cross", with(words, 1).cross(0, all), all);
            Due.is("none of " + words + " cross", with(words, 1).cross(0, 0), 0);
        }
    }
}
