import java.lang.reflect.Method;
import java.util.ArrayList;
import java.util.Arrays;
import java.util.List;
import java.util.function.Supplier;

/** Objects that tests start from, calls told by their text, and all that can be read of an object. */
final class Worlds {
    private static final int DAYS_THAT_WAIT = 3, SLOTS = 5, SHEETS = 4;

    private Worlds() {
    }

    /** Some room is left everywhere; an image was kept, and much is otherwise since. */
    static WordLeash ready() {
        WordLeash x = readyWithoutRows();
        tellRows(x, daysTold(kept(), DAYS_THAT_WAIT));
        return x;
    }

    static WordLeash readyWithoutRows() {
        WordLeash x = kept();
        goOn(x);
        return x;
    }

    /** The same, but that there is no image; what waits is right for what is now. */
    static WordLeash neverKept() {
        WordLeash x = neverKeptWithoutRows();
        tellRows(x, daysTold(neverKeptWithoutRows(), DAYS_THAT_WAIT));
        return x;
    }

    static WordLeash neverKeptWithoutRows() {
        WordLeash x = started();
        goOn(x);
        return x;
    }

    private static void goOn(WordLeash x) {
        x.cross(1, 7);
        x.turns(0, 3);
        x.set(1, 3, 0);
        x.gives(2, 33);
        x.traveller();
        x.rule(0, 9);
        text(x, "fine s*9+l");
        x.days(1);
        sheets(x);
        x.lay(1, 1, 2);
        x.lay(2, 2, 1);
        x.lay(3, 3, -77);
        tape(x, "bill p*3-n");
    }

    private static WordLeash kept() {
        WordLeash x = started();
        x.keep();
        return x;
    }

    private static WordLeash started() {
        WordLeash x = new WordLeash();
        x.seed(41);
        x.deal(4);
        x.word(2, 8, 60, 3);
        x.word(4, 144, 41, 2);
        for (int i = 0; i < 3; i++) {
            x.traveller();
        }
        text(x, "duty d+t");
        x.rule(1, 60);
        x.cross(0, 19);
        x.days(2);
        text(x, "bill p+n");
        return x;
    }

    /** Row 0 of shorts, row 1 of floats, row 2 without places; row 3 is MISSING. */
    private static void sheets(WordLeash x) {
        x.sheet(0, 0, 5);
        x.sheet(1, 1, 6);
        x.sheet(2, 1, 0);
        for (int i = 0; i < 5; i++) {
            x.mark(0, i, 1000 * i - 999);
            x.mark(1, i, i == 2 ? WordLeash.NONE : 7 * i);
        }
    }

    /** No room is left anywhere. */
    static WordLeash full() {
        WordLeash x = fullWithoutRows();
        tellRows(x, daysTold(fullAndKept(), 30));
        return x;
    }

    static WordLeash fullWithoutRows() {
        WordLeash x = fullAndKept();
        x.cross(5, 1000);
        x.forget();
        x.sheet(3, 0, 24);
        x.mark(3, 23, 23);
        x.sheet(0, 1, 24);
        x.mark(0, 0, WordLeash.NONE);
        x.sheet(1, 1, 24);
        x.sheet(2, 0, 0);
        for (int slot = 0; slot < SLOTS; slot++) {
            int[] things = {1, 1, 2, 3, 2};
            x.lay(slot, things[slot], slot == 2 ? 3 : slot == 4 ? 0 : 8);
        }
        tape(x, "bill " + "p+n-".repeat(22) + "p*7");
        return x;
    }

    private static WordLeash fullAndKept() {
        WordLeash x = new WordLeash();
        x.seed(7);
        x.deal(10);
        for (int i = 0; i < 6; i++) {
            x.traveller();
        }
        for (int i = 0; i < 14; i++) {
            text(x, new String[] {"duty d+", "bill p-", "fine s+"}[i % 3] + i);
        }
        x.rule(0, 10);
        x.days(1);
        x.keep();
        return x;
    }

    /** PAID and STAMPS of all behind each of n days, told by an object that was just kept. */
    private static int[] daysTold(WordLeash x, int n) {
        int[] rows = new int[2 * n];
        for (int i = 0; i < n; i++) {
            x.days(1);
            rows[2 * i] = x.count(5);
            rows[2 * i + 1] = x.count(6);
        }
        return rows;
    }

    private static void tellRows(WordLeash x, int[] rows) {
        for (int row : rows) {
            x.tell(row);
        }
    }

    static void tape(WordLeash x, String text) {
        Due.tape(x, text);
    }

    static int text(WordLeash x, String text) {
        return Due.text(x, text);
    }

    /** A call told by its text, as "rule(0, MOST)". */
    static int call(WordLeash x, String call) {
        int open = call.indexOf('(');
        String inside = call.substring(open + 1, call.length() - 1);
        String[] words = inside.isBlank() ? new String[0] : inside.split(",");
        Object[] values = Arrays.stream(words).map(w -> (Object) value(w.trim())).toArray();
        Class<?>[] types = new Class<?>[values.length];
        Arrays.fill(types, int.class);
        try {
            Method method = WordLeash.class.getMethod(call.substring(0, open), types);
            return (Integer) method.invoke(x, values);
        } catch (ReflectiveOperationException e) {
            throw new IllegalStateException(call, e);
        }
    }

    private static int value(String word) {
        return switch (word) {
            case "MOST" -> Integer.MAX_VALUE;
            case "LEAST" -> Integer.MIN_VALUE;
            case "NONE" -> WordLeash.NONE;
            default -> Integer.parseInt(word);
        };
    }

    /**
     * All that can be read of objects that are made alike. Where reading needs a call that may be refused, or that uses
     * something up, an object of its own is read, so that nothing that is read hides what an earlier call did.
     */
    static List<Integer> read(Supplier<WordLeash> make) {
        List<Integer> all = new ArrayList<>();
        readTape(make.get(), all);
        WordLeash x = make.get();
        all.add(x.check(Math.max(1, x.count(8) / 2)));
        x = make.get();
        x.keep();
        all.add(x.check(Math.max(1, x.count(8) / 2)));
        x = make.get();
        all.add(x.back());
        readNow(x, all);
        for (int slot = 0; slot < SLOTS; slot++) {
            readSlot(make, slot, all);
        }
        for (int sheet = 0; sheet < SHEETS; sheet++) {
            readSheet(make, sheet, all);
        }
        return all;
    }

    private static void readTape(WordLeash x, List<Integer> all) {
        readNow(x, all);
        all.add(x.text());
        readNow(x, all);
    }

    private static void readNow(WordLeash x, List<Integer> all) {
        for (int what = 0; what <= 10; what++) {
            all.add(x.count(what));
        }
        int words = x.count(0);
        int travellers = x.count(1);
        int texts = x.count(7);
        for (int word = 0; word < words; word++) {
            for (int what = 0; what <= 8; what++) {
                all.add(x.told(word, what));
            }
        }
        for (int traveller = 0; traveller < travellers; traveller++) {
            all.add(x.travels(traveller, 0));
            all.add(x.travels(traveller, 1));
            all.add(x.bill(traveller));
        }
        for (int text = 0; text < texts; text++) {
            all.add(x.textTold(text, 0) * 100 + x.textTold(text, 1));
        }
        for (int key = 0; key < 3; key++) {
            all.add(x.why(key));
        }
        all.add(x.man(0));
        all.add(x.man(1));
        all.add(x.fine());
    }

    private static void readSlot(Supplier<WordLeash> make, int slot, List<Integer> all) {
        WordLeash x = make.get();
        for (int kind = 0; kind < 6; kind++) {
            all.add(x.ask(slot, kind));
        }
        readPlaces(make.get(), slot, all);
        x = make.get();
        all.add(x.rest(slot, 65536));
        all.add(x.rest(slot, 99991));
        all.add(make.get().lay(slot, 0, 0));
    }

    private static void readSheet(Supplier<WordLeash> make, int sheet, List<Integer> all) {
        WordLeash x = make.get();
        all.add(x.lay(0, 2, sheet));
        readPlaces(x, 0, all);
        all.add(make.get().mark(sheet, 0, WordLeash.NONE));
        x = make.get();
        int other = (sheet + 1) % SHEETS;
        x.sheet(other, 0, 0);
        all.add(x.copy(sheet, 0, other, 0, 0));
    }

    private static void readPlaces(WordLeash x, int slot, List<Integer> all) {
        for (int place = 0; place <= 24; place++) {
            all.add(x.item(slot, place));
        }
    }
}
