import java.lang.reflect.Method;
import java.util.ArrayList;
import java.util.List;
import java.util.Random;

/** Runs of 512 calls, the same for WordLeash and for Model: each answer has to be the same. */
public final class RandomRunsTest {
    private static final int RUNS = 1500;
    private static final int CALLS = 512;
    /** A bound that only sets of WORDS have: they are mostly of WORDS that there are. */
    private static final int MOST_SET = 1023;
    private static final int[] STRANGE = {
        -1, -2, 1 << 30, Integer.MAX_VALUE, Integer.MIN_VALUE, WordLeash.NONE, WordLeash.BAD, 100000, -100000, 65536};

    /** A call, its arguments' bounds two by two, and how often it comes. */
    private record Call(Method real, Method model, int[] bounds, int weight) {
    }

    private static final List<Call> CALLS_BY_WEIGHT = new ArrayList<>();

    private final Random random;
    private final WordLeash real = new WordLeash();
    private final Model model = new Model();
    private final List<String> calls = new ArrayList<>();
    private boolean wrong = false;

    private RandomRunsTest(int run) {
        random = new Random(run);
    }

    public static void main(String[] args) throws Exception {
        makeCalls();
        for (int run = 0; run < RUNS; run++) {
            RandomRunsTest one = new RandomRunsTest(run);
            one.goes(run);
            Due.holds("run " + run, !one.wrong);
        }
        Due.end("RandomRunsTest");
    }

    private static void makeCalls() throws Exception {
        call(6, "word", 0, 5, 1, 255, 0, 99, 0, 9);
        call(20, "told", 0, 9, 0, 8);
        call(4, "as", 0, 9, 0, 5);
        call(4, "turns", 0, 9, 0, 5);
        call(6, "set", 0, 9, 1, 3, 0, 99);
        call(4, "traveller");
        call(8, "travels", 0, 5, 0, 1);
        call(8, "gives", 0, 5, 0, 1023);
        call(5, "rule", 0, 1, 0, 12);
        call(2, "rule", 1, 1, 0, 100);
        call(1, "deal", 1, 10);
        call(2, "seed", Integer.MIN_VALUE, Integer.MAX_VALUE);
        call(16, "cross", 0, 5, 0, 1023);
        call(6, "man", 0, 1);
        call(5, "forget");
        call(6, "days", 1, 5);
        call(1, "days", 1, 60);
        call(6, "says", 0, 5, 0, 255);
        call(12, "cheapest", 0, 5, 0, 255, 0, 1);
        call(8, "shortest", 0, 5, 0, 255);
        call(8, "nearest", 0, 5, 0, 255, 0, 10);
        call(8, "treaty", 0, 255);
        call(6, "behind", 0, 5, 0, 60, 0, 2);
        call(4, "turnsBy");
        call(6, "quota", 0, 3, 0, 9, 0, 1);
        call(5, "bill", 0, 5);
        call(5, "fine");
        call(1, "feed", Integer.MIN_VALUE, Integer.MAX_VALUE, 0, 1 << 30, 0, 1 << 20);
        call(1, "trim", 0, 96);
        call(1, "text");
        call(3, "textTold", 0, 13, 0, 1);
        call(3, "why", 0, 2);
        call(8, "sheet", 0, 3, 0, 1, 0, 24);
        call(16, "mark", 0, 3, 0, 12, -5, 30);
        call(3, "mark", 0, 3, 0, 23, -100010, 100010);
        call(3, "mark", 0, 3, 0, 12, WordLeash.NONE, WordLeash.NONE);
        call(4, "pour", 0, 3);
        call(5, "reads", 0, 3);
        call(6, "copy", 0, 3, 0, 12, 0, 3, 0, 12, 0, 8);
        call(16, "lay", 0, 4, 1, 3, 0, 3);
        call(12, "ask", 0, 4, 0, 5);
        call(12, "item", 0, 4, 0, 6);
        call(8, "rest", 0, 4, -5, 5);
        call(2, "tell", 0, 50);
        call(1, "check", 1, 30);
        call(2, "keep");
        call(2, "back");
        call(12, "count", 0, 10);
    }

    private static void call(int weight, String name, int... bounds) throws Exception {
        Class<?>[] types = new Class<?>[bounds.length / 2];
        java.util.Arrays.fill(types, int.class);
        Method model = Model.class.getMethod(name, types);
        model.setAccessible(true);
        Call call = new Call(WordLeash.class.getMethod(name, types), model, bounds, weight);
        for (int i = 0; i < weight; i++) {
            CALLS_BY_WEIGHT.add(call);
        }
    }

    private void goes(int run) throws Exception {
        if (run % 4 == 0) {
            both(find("deal"), 10);
            for (int i = 0; i < 6; i++) {
                both(find("traveller"));
            }
        }
        for (int i = 0; i < 4; i++) {
            both(find("sheet"), i, random.nextInt(2), random.nextInt(25));
        }
        while (calls.size() < CALLS && !wrong) {
            int lot = random.nextInt(100);
            if (lot < 2) {
                tellsText();
            } else if (lot < 3) {
                checks();
            } else if (lot < 4 && run % 10 == 0) {
                both(find("days"), 60);
            } else {
                any();
            }
        }
    }

    private static Call find(String name) {
        for (Call call : CALLS_BY_WEIGHT) {
            if (call.real().getName().equals(name)) {
                return call;
            }
        }
        throw new IllegalStateException(name);
    }

    private void any() throws Exception {
        Call call = CALLS_BY_WEIGHT.get(random.nextInt(CALLS_BY_WEIGHT.size()));
        int[] arguments = new int[call.bounds().length / 2];
        for (int i = 0; i < arguments.length; i++) {
            arguments[i] = argument(call.bounds()[2 * i], call.bounds()[2 * i + 1]);
        }
        both(call, arguments);
    }

    private int argument(int least, int most) {
        int lot = random.nextInt(60);
        if (lot == 0) {
            return STRANGE[random.nextInt(STRANGE.length)];
        }
        if (lot == 1) {
            return least - 1;
        }
        if (lot == 2) {
            return most + 1;
        }
        if (lot < 8) {
            return lot % 2 == 0 ? least : most;
        }
        int any = (int) (least + Math.floorMod(random.nextLong(), (long) most - least + 1));
        return most == MOST_SET ? any & (1 << model.count(0)) - 1 : any;
    }

    private int both(Call call, int... arguments) throws Exception {
        if (calls.size() >= CALLS) {
            return 0;
        }
        Object[] boxed = new Object[arguments.length];
        for (int i = 0; i < boxed.length; i++) {
            boxed[i] = arguments[i];
        }
        int got = (Integer) call.real().invoke(real, boxed);
        int due = (Integer) call.model().invoke(model, boxed);
        calls.add(call.real().getName() + java.util.Arrays.toString(arguments) + " = " + got);
        if (got != due && !wrong) {
            wrong = true;
            calls.forEach(System.out::println);
            System.out.println("due is " + due);
        }
        return due;
    }

    private void tellsText() throws Exception {
        StringBuilder text = new StringBuilder(new String[] {"duty ", "bill ", "fine "}[random.nextInt(3)]);
        String names = text.charAt(0) == 'd' ? "dtq" : text.charAt(0) == 'b' ? "pn" : "sl";
        formula(text, names, 0, 5);
        if (random.nextInt(3) == 0 && text.length() > 0) {
            damage(text);
        }
        int has = both(find("count"), 9);
        for (int i = 0; i < text.length(); i += 12) {
            both(find("feed"), four(text, i), four(text, i + 4), four(text, i + 8));
        }
        both(find("trim"), Math.min(96, (random.nextInt(4) == 0 ? 0 : has) + text.length()));
        both(find("text"));
        both(find("textTold"), random.nextInt(14), 1);
    }

    private static int four(CharSequence text, int at) {
        int four = 0;
        for (int i = at; i < at + 4; i++) {
            four = four << 8 | (i < text.length() ? text.charAt(i) & 255 : ' ');
        }
        return four;
    }

    private void formula(StringBuilder text, String names, int depth, int loosest) {
        int lot = random.nextInt(10);
        if (depth > 12 || text.length() > 80 || lot < 3) {
            text.append(random.nextBoolean() ? String.valueOf(random.nextInt(random.nextBoolean() ? 12 : 10500))
                : String.valueOf(names.charAt(random.nextInt(names.length()))));
        } else if (lot < 5) {
            text.append('!');
            formula(text, names, depth + 1, loosest);
        } else if (lot < 7) {
            text.append('(');
            formula(text, names, depth + 1, loosest);
            text.append(')');
        } else {
            formula(text, names, depth + 1, loosest);
            text.append(random.nextInt(3) == 0 ? " " : "").append("|&<=>+-*/".charAt(random.nextInt(9)));
            text.append(random.nextInt(3) == 0 ? "  " : "");
            formula(text, names, depth + 1, loosest);
        }
    }

    private void damage(StringBuilder text) {
        int at = random.nextInt(text.length());
        String signs = "|&<=>+-*/!() dtqpnsl019xZ%";
        char sign = signs.charAt(random.nextInt(signs.length()));
        switch (random.nextInt(4)) {
            case 0 -> text.deleteCharAt(at);
            case 1 -> text.insert(at, sign);
            case 2 -> text.setCharAt(at, sign);
            default -> text.setLength(at);
        }
    }

    private void checks() throws Exception {
        int n = 1 + random.nextInt(random.nextInt(4) == 0 ? 30 : 4);
        if (random.nextInt(3) == 0) {
            both(find("keep"));
        }
        both(find("check"), 1);
        List<Integer> told = model.daysTold(n);
        if (told == null) {
            return;
        }
        List<Integer> rows = new ArrayList<>(told);
        int lot = random.nextInt(6);
        if (lot == 0 && rows.size() > 0) {
            rows.set(random.nextInt(rows.size()), random.nextInt(100));
        } else if (lot == 1) {
            rows.add(0);
        } else if (lot == 2 && rows.size() > 0) {
            rows.remove(rows.size() - 1);
        }
        for (int row : rows) {
            both(find("tell"), row);
        }
        both(find("check"), n);
    }
}
