import java.util.List;
import java.util.Set;
import java.util.TreeSet;
import java.util.function.Supplier;

/** A call that is refused answers what stands first with it, and changes nothing; so do calls that only ask. */
public final class RefusedTest {
    private static final int BAD = WordLeash.BAD, NO = WordLeash.NO, FULL = WordLeash.FULL;
    private static final int NOTHING = WordLeash.NOTHING, KIND = WordLeash.KIND, INDEX = WordLeash.INDEX;
    private static final int SIZE = WordLeash.SIZE;
    private static final Set<String> REFUSE = Set.of(
        "word", "told", "as", "turns", "set", "traveller", "travels", "gives", "rule", "deal", "cross", "man", "days",
        "says", "cheapest", "shortest", "nearest", "treaty", "behind", "quota", "bill", "feed", "trim", "text",
        "textTold", "why", "sheet", "mark", "pour", "reads", "copy", "lay", "ask", "item", "rest", "tell", "check",
        "back", "count");

    private static final Set<String> refused = new TreeSet<>();

    private record World(Supplier<WordLeash> make, List<Integer> all) {
        static World of(Supplier<WordLeash> make) {
            return new World(make, Worlds.read(make));
        }

        void isAs(World other, String call) {
            Due.holds(call + " leaves all else", Worlds.read(() -> after(call)).equals(other.all));
        }

        private WordLeash after(String call) {
            WordLeash x = make.get();
            Worlds.call(x, call);
            return x;
        }
    }

    private static final World FRESH = World.of(WordLeash::new);
    private static final World READY = World.of(Worlds::ready);
    private static final World FULL_UP = World.of(Worlds::full);
    private static final World NEVER_KEPT = World.of(Worlds::neverKept);

    public static void main(String[] args) {
        theWorldsAreRich();
        wordsAndTravellers();
        theBorder();
        whatCanBeSaid();
        texts();
        textsUseUpTheTape();
        sheets();
        marks();
        copies();
        slots();
        rowsAndImages();
        checkUsesUpWhatWaits();
        askingChangesNothing();
        Due.holds("each call that can be refused was: " + refused, refused.equals(REFUSE));
        Due.end("RefusedTest");
    }

    private static void refuses(World world, int due, String... calls) {
        for (String call : calls) {
            Due.is(call, Worlds.call(world.make.get(), call), due);
            world.isAs(world, call);
            refused.add(call.substring(0, call.indexOf('(')));
        }
    }

    private static void asks(World world, String... calls) {
        for (String call : calls) {
            world.isAs(world, call);
        }
    }

    private static void theWorldsAreRich() {
        WordLeash x = Worlds.ready();
        Due.is("what waits is right", x.check(3), 0);
        Due.is("the tape is a TEXT", x.text(), 3);
        Due.is("an image is there", x.back(), 6);
        x = Worlds.full();
        int[] most = {10, 6, 14, 60, 96};
        int[] whats = {0, 1, 7, 8, 9};
        for (int i = 0; i < most.length; i++) {
            Due.is("full of " + whats[i], x.count(whats[i]), most[i]);
        }
        Due.is("sixty that wait are right", x.check(30), 0);
        x = Worlds.neverKept();
        x.keep();
        Due.is("what waits is right for what is now", x.check(3), 0);
    }

    private static void wordsAndTravellers() {
        refuses(READY, BAD,
            "word(-1, 1, 0, 0)", "word(6, 1, 0, 0)", "word(0, 0, 0, 0)", "word(0, 256, 0, 0)", "word(0, 1, -1, 0)",
            "word(0, 1, 100, 0)", "word(0, 1, 0, -1)", "word(0, 1, 0, 100)", "word(MOST, 1, 0, 0)",
            "word(0, LEAST, 0, 0)", "word(0, 1, MOST, 0)", "word(0, 1, 0, LEAST)");
        refuses(FULL_UP, BAD, "word(6, 1, 0, 0)", "word(0, 0, 0, 0)", "word(0, 1, 100, 0)", "word(0, 1, 0, 100)");
        refuses(FULL_UP, FULL, "word(0, 1, 0, 0)", "word(5, 255, 99, 99)", "traveller()");
        refuses(READY, BAD,
            "told(-1, 0)", "told(6, 0)", "told(0, -1)", "told(0, 9)", "told(MOST, 8)", "told(0, LEAST)",
            "as(-1, 0)", "as(6, 0)", "as(0, -1)", "as(0, 6)", "as(6, 6)", "as(LEAST, 0)", "as(0, MOST)",
            "turns(-1, 0)", "turns(6, 0)", "turns(0, -1)", "turns(0, 6)", "turns(MOST, 0)", "turns(0, LEAST)");
        refuses(READY, KIND, "as(5, 1)", "as(5, 5)", "as(4, 4)");
        refuses(READY, BAD,
            "set(-1, 1, 1)", "set(6, 1, 1)", "set(0, 0, 1)", "set(0, 4, 1)", "set(0, -1, 1)", "set(0, 1, 0)",
            "set(0, 1, 256)", "set(0, 2, -1)", "set(0, 2, 100)", "set(0, 3, -1)", "set(0, 3, 100)", "set(0, 1, MOST)",
            "set(0, 2, LEAST)", "set(0, MOST, 1)", "set(LEAST, 2, 1)");
        refuses(READY, BAD,
            "travels(-1, 0)", "travels(4, 0)", "travels(0, -1)", "travels(0, 2)", "travels(MOST, 1)",
            "gives(-1, 0)", "gives(4, 0)", "gives(0, 64)", "gives(0, 1024)", "gives(0, 65)", "gives(0, -1)",
            "gives(0, LEAST)", "rule(0, 0)", "rule(0, 11)", "rule(1, -1)", "rule(1, 101)", "rule(2, 5)",
            "rule(-1, 5)", "rule(0, MOST)", "rule(1, LEAST)", "deal(0)", "deal(11)", "deal(-1)", "deal(LEAST)");
        refuses(FRESH, BAD, "told(0, 0)", "as(0, 0)", "turns(0, 0)", "set(0, 1, 1)", "travels(0, 0)", "gives(0, 0)");
        refuses(FULL_UP, BAD, "deal(11)", "deal(0)", "gives(5, 1024)", "gives(6, 0)", "told(10, 0)");
        asks(FULL_UP, "deal(1)", "deal(10)");
    }

    private static void theBorder() {
        refuses(READY, BAD,
            "cross(-1, 0)", "cross(4, 0)", "cross(0, 64)", "cross(0, 127)", "cross(0, 1024)", "cross(0, -1)",
            "cross(3, LEAST)", "cross(3, MOST)", "man(-1)", "man(2)", "man(MOST)", "days(0)", "days(61)", "days(-1)",
            "days(MOST)", "days(LEAST)");
        refuses(FULL_UP, BAD, "cross(6, 1)", "cross(5, 1024)", "cross(5, 2047)");
        refuses(FRESH, BAD, "cross(0, 0)", "cross(0, 1)", "days(0)", "days(61)");
    }

    private static void whatCanBeSaid() {
        refuses(READY, BAD,
            "says(-1, 0)", "says(4, 0)", "says(0, -1)", "says(0, 256)", "cheapest(-1, 1, 0)", "cheapest(4, 1, 0)",
            "cheapest(0, -1, 0)", "cheapest(0, 256, 0)", "cheapest(0, 1, -1)", "cheapest(0, 1, 2)",
            "shortest(-1, 0)", "shortest(4, 0)", "shortest(0, -1)", "shortest(0, 256)", "nearest(-1, 1, 1)",
            "nearest(4, 1, 1)", "nearest(0, -1, 1)", "nearest(0, 256, 1)", "nearest(0, 1, -1)", "nearest(0, 1, 11)",
            "treaty(-1)", "treaty(256)", "behind(-1, 1, 0)", "behind(4, 1, 0)", "behind(0, -1, 0)", "behind(0, 61, 0)",
            "behind(0, 1, -1)", "behind(0, 1, 3)", "bill(-1)", "bill(4)");
        refuses(FRESH, BAD, "says(0, 0)", "cheapest(0, 0, 0)", "cheapest(0, 1, 2)", "shortest(0, 0)", "shortest(0, 1)",
            "nearest(0, 0, 0)", "behind(0, 0, 0)", "behind(0, 1, 2)", "bill(0)", "quota(0, 0, 0)", "treaty(256)");
        refuses(READY, BAD,
            "quota(-1, 0, 0)", "quota(4, 0, 0)", "quota(0, -1, 0)", "quota(0, 6, 0)", "quota(0, 0, -1)",
            "quota(0, 0, 2)", "quota(3, 6, 0)", "quota(3, 0, 2)", "quota(3, -1, 0)", "quota(MOST, 0, 0)");
        refuses(READY, NOTHING, "quota(3, 0, 0)", "quota(3, 5, 1)");
    }

    private static void texts() {
        refuses(FULL_UP, FULL, "feed(0, 0, 0)", "feed(-1, MOST, LEAST)");
        refuses(FULL_UP, BAD, "trim(97)", "trim(-1)", "trim(MOST)", "trim(LEAST)");
        refuses(READY, BAD,
            "trim(11)", "trim(-1)", "textTold(3, 0)", "textTold(-1, 0)", "textTold(0, 2)", "textTold(0, -1)",
            "textTold(MOST, 1)", "textTold(LEAST, 0)", "why(-1)", "why(3)", "why(MOST)", "why(LEAST)");
        World fullTape = World.of(() -> withTape(Worlds.ready(), "bill " + "p+n-".repeat(22) + "p*7"));
        refuses(fullTape, FULL, "feed(0, 0, 0)", "feed(538976288, 538976288, 538976288)");
        refuses(fullTape, BAD, "trim(97)", "trim(-1)");
        World tapeOf85 = World.of(() -> withTape(Worlds.ready(), "bill " + "p+n-".repeat(19) + "p*77"));
        refuses(tapeOf85, FULL, "feed(0, 0, 0)");
        refuses(tapeOf85, BAD, "trim(86)", "trim(96)");
        refuses(FULL_UP, BAD, "textTold(14, 0)", "textTold(14, 1)");
        refuses(FRESH, BAD, "trim(1)", "trim(-1)", "textTold(0, 0)", "textTold(13, 1)");
        asks(FRESH, "why(0)", "why(1)", "why(2)", "trim(0)");
    }

    /** A refused text() does just what trim(0) does. */
    private static void textsUseUpTheTape() {
        World fault = World.of(() -> withTape(Worlds.ready(), "bill p*"));
        World faultless = World.of(() -> withTape(Worlds.ready(), ""));
        Due.is("a FAULT", fault.make.get().text(), -107);
        fault.isAs(faultless, "text()");
        Due.is("FULL", FULL_UP.make.get().text(), FULL);
        FULL_UP.isAs(World.of(() -> withTape(Worlds.full(), "")), "text()");
        World both = World.of(() -> withTape(Worlds.full(), "duty p"));
        Due.is("a FAULT stands ahead of FULL", both.make.get().text(), -105);
        both.isAs(World.of(() -> withTape(Worlds.full(), "")), "text()");
        Due.is("an empty tape", FRESH.make.get().text(), -100);
        FRESH.isAs(FRESH, "text()");
        refused.add("text");
    }

    private static WordLeash withTape(WordLeash x, String text) {
        x.trim(0);
        Worlds.tape(x, text);
        return x;
    }

    private static void sheets() {
        refuses(READY, BAD,
            "sheet(-1, 0, 1)", "sheet(4, 0, 1)", "sheet(0, -2, 1)", "sheet(0, 2, 1)", "sheet(0, 0, 25)",
            "sheet(1, 1, 25)", "sheet(0, 0, MOST)", "sheet(4, 0, -1)", "sheet(-1, 1, -1)", "sheet(0, 2, -1)",
            "sheet(0, -2, -1)", "sheet(4, -1, 0)", "sheet(-1, -1, 0)", "sheet(MOST, 0, 0)", "sheet(0, LEAST, 0)");
        refuses(READY, SIZE, "sheet(0, 0, -1)", "sheet(1, 1, -1)", "sheet(3, 0, -1)", "sheet(2, 1, LEAST)");
        asks(READY, "sheet(3, -1, 25)", "sheet(3, -1, -1)");
        refuses(READY, BAD, "pour(-1)", "pour(4)", "pour(MOST)", "reads(-1)", "reads(4)", "reads(LEAST)");
        refuses(READY, NOTHING, "pour(3)", "reads(3)");
        refuses(FRESH, NOTHING, "pour(0)", "reads(0)", "pour(3)", "reads(3)");
        asks(READY, "pour(2)", "reads(2)");
    }

    private static void marks() {
        refuses(READY, BAD,
            "mark(-1, 0, 0)", "mark(4, 0, 0)", "mark(4, 24, NONE)", "mark(-1, -1, 100000)", "mark(MOST, 0, 0)",
            "mark(1, 0, 100000)", "mark(1, 5, -100000)", "mark(1, 2, MOST)", "mark(1, 2, LEAST)");
        refuses(READY, NOTHING, "mark(3, 0, 0)", "mark(3, -1, 0)", "mark(3, 24, NONE)", "mark(3, 0, 100000)");
        refuses(READY, INDEX,
            "mark(0, -1, 0)", "mark(0, 5, 0)", "mark(1, 6, 0)", "mark(0, 5, NONE)", "mark(0, -1, NONE)",
            "mark(1, 6, 100000)", "mark(1, -1, -100000)", "mark(2, 0, 0)", "mark(2, 0, NONE)", "mark(0, MOST, 0)",
            "mark(1, LEAST, 0)");
        refuses(READY, KIND, "mark(0, 0, NONE)", "mark(0, 4, NONE)");
        refuses(FULL_UP, INDEX, "mark(0, 24, 0)", "mark(3, 24, 0)", "mark(3, 24, NONE)");
    }

    private static void copies() {
        refuses(READY, BAD,
            "copy(-1, 0, 0, 0, 1)", "copy(4, 0, 0, 0, 1)", "copy(0, 0, -1, 0, 1)", "copy(0, 0, 4, 0, 1)",
            "copy(3, 0, 4, 0, 1)", "copy(4, 0, 3, 0, 1)", "copy(4, 9, 1, 9, -1)", "copy(0, 0, MOST, 0, 0)");
        refuses(READY, NOTHING,
            "copy(0, 0, 3, 0, 1)", "copy(3, 0, 0, 0, 1)", "copy(3, 0, 3, 0, 0)", "copy(3, -1, 1, -1, -1)",
            "copy(1, 9, 3, 9, 9)");
        refuses(READY, KIND,
            "copy(0, 0, 1, 0, 1)", "copy(1, 0, 0, 0, 1)", "copy(0, 0, 2, 0, 0)", "copy(0, -1, 1, 0, 1)",
            "copy(1, 0, 0, 9, -1)");
        refuses(READY, INDEX,
            "copy(0, 0, 0, 1, -1)", "copy(0, -1, 0, 1, 1)", "copy(0, 1, 0, -1, 1)", "copy(0, 1, 0, 0, 5)",
            "copy(0, 0, 0, 1, 5)", "copy(1, 0, 2, 0, 1)", "copy(2, 0, 1, 0, 1)", "copy(0, 6, 0, 0, 0)",
            "copy(0, 0, 0, 6, 0)", "copy(0, 5, 0, 0, 1)", "copy(0, 0, 0, 5, 1)", "copy(0, MOST, 0, 0, 1)",
            "copy(0, 0, 0, MOST, 1)", "copy(0, 1, 0, 1, MOST)", "copy(0, 0, 0, 1, LEAST)", "copy(0, 0, 0, 0, 6)");
        asks(READY, "copy(0, 5, 0, 0, 0)", "copy(0, 0, 0, 5, 0)", "copy(1, 6, 2, 0, 0)", "copy(2, 0, 2, 0, 0)",
            "copy(0, 0, 0, 0, 5)");
    }

    private static void slots() {
        refuses(READY, BAD,
            "lay(-1, 0, 0)", "lay(5, 0, 0)", "lay(1, -1, 0)", "lay(1, 4, 0)", "lay(2, 1, 6)", "lay(2, 1, -1)",
            "lay(1, 2, 4)", "lay(1, 2, -1)", "lay(5, 2, 3)", "lay(-1, 2, 3)", "lay(MOST, 3, 3)", "lay(3, LEAST, 3)",
            "lay(3, 1, MOST)", "lay(3, 2, LEAST)");
        refuses(READY, NOTHING, "lay(0, 2, 3)", "lay(1, 2, 3)", "lay(2, 2, 3)", "lay(3, 2, 3)");
        refuses(FRESH, BAD, "lay(0, 1, 0)", "lay(5, 0, 0)", "ask(0, 6)", "ask(5, 0)", "item(5, 0)", "rest(5, 0)");
        refuses(FRESH, NOTHING, "lay(0, 2, 0)", "ask(0, 0)", "item(0, 0)", "item(4, -1)", "rest(4, 1)", "rest(0, 0)");
        refuses(READY, BAD, "ask(-1, 0)", "ask(5, 0)", "ask(1, -1)", "ask(1, 6)", "ask(0, 6)", "ask(2, -1)");
        refuses(READY, NOTHING, "ask(0, 0)", "ask(4, 5)");
        refuses(READY, KIND, "ask(2, 0)", "ask(3, 0)", "ask(1, " + notItsKind() + ")");
        refuses(READY, BAD, "item(-1, 0)", "item(5, 0)", "item(5, -1)", "item(MOST, 0)");
        refuses(READY, NOTHING, "item(0, 0)", "item(4, 24)", "item(4, -1)");
        refuses(READY, KIND, "item(1, 0)", "item(3, 0)", "item(1, -1)", "item(3, 24)", "item(2, 2)");
        refuses(READY, INDEX, "item(2, -1)", "item(2, 6)", "item(2, MOST)", "item(2, LEAST)");
        refuses(READY, BAD, "rest(-1, 1)", "rest(5, 1)", "rest(5, 0)", "rest(LEAST, 0)");
        refuses(READY, NOTHING, "rest(0, 1)", "rest(4, 0)");
        refuses(READY, KIND, "rest(1, 1)", "rest(2, 1)", "rest(1, 0)", "rest(2, 0)");
        refuses(READY, NO, "rest(3, 0)");
    }

    /** A KIND below WORD that the WORD in slot 1 is not of. */
    private static int notItsKind() {
        WordLeash x = Worlds.ready();
        int kind = 1;
        while (x.as(2, kind) != KIND) {
            kind++;
        }
        return kind;
    }

    private static void rowsAndImages() {
        refuses(FULL_UP, FULL, "tell(0)", "tell(NONE)", "tell(LEAST)");
        refuses(FRESH, NO, "back()", "check(1)", "check(30)");
        refuses(READY, BAD, "count(-1)", "count(11)", "count(MOST)", "count(LEAST)");
        refuses(NEVER_KEPT, NO, "back()");
    }

    private static void checkUsesUpWhatWaits() {
        World without = World.of(Worlds::readyWithoutRows);
        for (String call : List.of("check(0)", "check(31)", "check(-1)", "check(MOST)", "check(LEAST)")) {
            Due.is(call, Worlds.call(Worlds.ready(), call), BAD);
            READY.isAs(without, call);
            refused.add("check");
        }
        for (String call : List.of("check(1)", "check(2)", "check(3)", "check(30)")) {
            READY.isAs(without, call);
        }
        FULL_UP.isAs(World.of(Worlds::fullWithoutRows), "check(0)");
        FULL_UP.isAs(World.of(Worlds::fullWithoutRows), "check(30)");
        Due.is("BAD stands ahead of NO", Worlds.call(new WordLeash(), "check(31)"), BAD);
        World neverWithout = World.of(Worlds::neverKeptWithoutRows);
        for (String call : List.of("check(1)", "check(3)", "check(30)")) {
            Due.is(call, Worlds.call(Worlds.neverKept(), call), NO);
            NEVER_KEPT.isAs(neverWithout, call);
        }
        NEVER_KEPT.isAs(neverWithout, "check(31)");
        World told = World.of(() -> toldOne(new WordLeash()));
        told.isAs(FRESH, "check(1)");
        told.isAs(FRESH, "check(0)");
    }

    private static WordLeash toldOne(WordLeash x) {
        x.tell(1);
        return x;
    }

    private static void askingChangesNothing() {
        asks(READY,
            "told(0, 6)", "told(5, 7)", "as(0, 0)", "travels(0, 1)", "man(0)", "man(1)", "says(0, 255)",
            "cheapest(0, 255, 0)", "cheapest(3, 255, 1)", "cheapest(0, 128, 1)", "shortest(0, 1)", "shortest(3, 1)",
            "nearest(0, 255, 3)", "treaty(255)", "treaty(0)", "behind(0, 60, 0)", "behind(3, 9, 1)", "behind(0, 1, 2)",
            "turnsBy()", "quota(0, 0, 0)", "quota(1, 4, 1)", "quota(2, 5, 0)", "bill(0)", "fine()", "textTold(0, 1)",
            "why(0)", "reads(0)", "reads(1)", "ask(1, 0)", "item(2, 0)", "rest(3, 5)", "count(10)", "trim(10)");
        asks(FULL_UP,
            "cheapest(0, 255, 0)", "shortest(5, 255)", "nearest(5, 255, 10)", "treaty(255)", "behind(5, 60, 0)",
            "turnsBy()", "quota(0, 9, 0)", "quota(3, 0, 1)", "trim(96)");
        asks(FRESH, "treaty(0)", "treaty(1)", "turnsBy()", "fine()", "why(0)", "forget()", "lay(0, 0, 9)");
    }
}
