/** Promises 27 to 31: texts. */
public final class TextsTest {
    private static final int BAD = WordLeash.BAD, FULL = WordLeash.FULL, NONE = WordLeash.NONE;
    private static final int MOST = Integer.MAX_VALUE, LEAST = Integer.MIN_VALUE;

    public static void main(String[] args) {
        promise27();
        promise28();
        textsAreNumbered();
        textUsesUpTheTape();
        values();
        faultsOfWords();
        faultsOfSigns();
        faultsOfDepth();
        faultsOfStrangeBytes();
        faultsAtTheEnd();
        blanksWhereverTheyMayBe();
        promise30();
        promise31();
        textsAreKeptByAnImage();
        Due.end("TextsTest");
    }

    private static void promise27() {
        WordLeash x = new WordLeash();
        for (int i = 1; i <= 8; i++) {
            Due.is("feed", x.feed(MOST, LEAST, -1), 12 * i);
        }
        Due.is("the 97th byte", x.feed(0, 0, 0), FULL);
        Due.is("bytes", x.count(9), 96);
        x.trim(85);
        Due.is("twelve more are 97", x.feed(0, 0, 0), FULL);
        x.trim(84);
        Due.is("twelve more are 96", x.feed(0, 0, 0), 96);
        x.text();
        Due.is("the highest byte of each first", order("bill12345678"), 0);
    }

    /** With the bytes of "bill1+2*3-45" in order the value tells so. */
    private static int order(String text) {
        WordLeash x = new WordLeash();
        x.traveller();
        x.feed('b' << 24 | 'i' << 16 | 'l' << 8 | 'l', ' ' << 24 | '1' << 16 | '+' << 8 | '2',
            '*' << 24 | '3' << 16 | '-' << 8 | '4');
        x.text();
        return x.bill(0) == 3 ? 0 : text.length();
    }

    private static void promise28() {
        WordLeash x = new WordLeash();
        Due.is("trim of nothing", x.trim(0), 0);
        Due.is("trim beyond", x.trim(1), BAD);
        x.feed(0, 0, 0);
        Due.is("trim to all", x.trim(12), 12);
        for (int n : new int[] {13, -1, MOST, LEAST}) {
            Due.is("trim wrong", x.trim(n), BAD);
        }
        Due.is("bytes", x.count(9), 12);
        Due.is("trim to five", x.trim(5), 5);
        Due.is("five bytes", x.count(9), 5);
        Due.is("no way back", x.trim(6), BAD);
        x.traveller();
        x.trim(0);
        Due.tape(x, "bill 71");
        x.trim(6);
        x.text();
        Due.is("it keeps its first bytes", x.bill(0), 7);
    }

    private static void textsAreNumbered() {
        WordLeash x = new WordLeash();
        for (int i = 0; i < 14; i++) {
            Due.is("text", Due.text(x, "bill " + i), i);
            Due.is("a FAULT takes no number", Due.text(x, "bill +"), -105);
        }
        Due.is("the fifteenth", Due.text(x, "bill 14"), FULL);
        Due.is("FAULT stands ahead of FULL", Due.text(x, "bill 1 4"), -107);
        Due.is("texts", x.count(7), 14);
        x.traveller();
        Due.is("the last one counts", x.bill(0), 13);
    }

    private static void textUsesUpTheTape() {
        WordLeash x = new WordLeash();
        Due.tape(x, "bill 1");
        x.text();
        Due.is("used up by a TEXT", x.count(9), 0);
        Due.tape(x, "bill");
        x.text();
        Due.is("used up by a FAULT", x.count(9), 0);
        for (int i = 0; i < 13; i++) {
            Due.text(x, "bill 1");
        }
        Due.tape(x, "bill 1");
        Due.is("no room", x.text(), FULL);
        Due.is("used up without room", x.count(9), 0);
        Due.is("nothing on it", x.text(), -100);
    }

    private static void value(String formula, int due) {
        WordLeash x = new WordLeash();
        x.word(0, 1, 7, 9);
        x.word(0, 1, 3, 9);
        x.traveller();
        x.cross(0, 3);
        Due.is(formula + " as a TEXT", Due.text(x, "bill " + formula), 0);
        Due.is(formula, x.bill(0), due);
    }

    /** p is 10, n is 2. */
    private static void values() {
        value("p", 10);
        value("n", 2);
        value("p+n*3", 16);
        value("(p+n)*3", 36);
        value("p-n-3", 5);
        value("p-(n-3)", 11);
        value("99/p/n", 4);
        value("p/n*3", 15);
        value("0-7/n", -3);
        value("(0-7)/n", -3);
        value("7/(n-n)", 0);
        value("0/0", 0);
        value("p<n", 0);
        value("n<p", 1);
        value("n<2", 0);
        value("n=2", 1);
        value("p=n", 0);
        value("p>n", 1);
        value("n>p", 0);
        value("n>2", 0);
        value("p>n+8", 0);
        value("p+1>n+8", 1);
        value("!p", 0);
        value("!!p", 1);
        value("!(p-10)", 1);
        value("!p+5", 5);
        value("!p*5", 0);
        value("!(p*0)*5", 5);
        value("p&n", 1);
        value("p&0", 0);
        value("0&p", 0);
        value("0|p", 1);
        value("p|0", 1);
        value("0|0", 0);
        value("p|n", 1);
        value("1|0&0", 1);
        value("(1|0)&0", 0);
        value("0&0|1", 1);
        value("1=1&2=2", 1);
        value("1=1&2=3|4<5", 1);
        value("5&1<3", 1);
        value("0-1&1", 1);
        value("(1<2)<3", 1);
        value("3>(2>1)", 1);
        value("2+(1<2)+(2<1)", 3);
        value("0000", 0);
        value("0007+9999", 10006);
        value("9999*9999*9999", 9999 * 9999 * 9999);
        value("(0-8192*8192*32)/(0-1)", LEAST);
        value("(0-8192*8192*32)-1", MOST);
        value("((((((((p))))))))", 10);
        value("!!!!!!!!p", 1);
        value("(((p)))+(((((n)))))", 12);
        value("1|(2/0)", 1);
        value("1-2+3*4/5-6", 1 - 2 + 3 * 4 / 5 - 6);
    }

    private static void fault(String text, int place) {
        WordLeash x = new WordLeash();
        Due.is("\"" + text + "\"", Due.text(x, text), place < 0 ? 0 : -100 - place);
        Due.is("\"" + text + "\": texts", x.count(7), place < 0 ? 1 : 0);
    }

    private static void faultsOfWords() {
        fault("duties d", 0);
        fault("dut d", 0);
        fault("Duty d", 0);
        fault("d", 0);
        fault("7", 0);
        fault("(d", 0);
        fault("  law 1", 2);
        fault("dutyd", 0);
        fault("dutyz d", 0);
        fault("dutya d", 0);
        fault("auty d", 0);
        fault("daty d", 0);
        fault("duny d", 0);
        fault("dutx d", 0);
        fault("dill p", 0);
        fault("duty5", 4);
        fault("duty0", 4);
        fault("duty9", 4);
        fault("duty 5d", 6);
        fault("duty d5", 6);
        fault("duty d d", 7);
        fault("duty d 5", 7);
        fault("duty 5 5", 7);
        fault("duty dd", 5);
        fault("duty duty", 5);
        fault("duty p", 5);
        fault("duty n", 5);
        fault("duty s", 5);
        fault("duty l", 5);
        fault("duty x", 5);
        fault("bill d", 5);
        fault("bill t", 5);
        fault("bill s", 5);
        fault("fine p", 5);
        fault("fine q", 5);
        fault("fine n", 5);
        fault("bill 1 + x", 9);
        fault("fine s+l+n", 9);
        fault("duty 9999", -1);
        fault("duty 10000", 5);
        fault("duty 00000", 5);
        fault("duty 1+12345", 7);
        fault("duty d", -1);
        fault("duty t", -1);
        fault("duty q", -1);
        fault("fine s", -1);
        fault("fine l", -1);
        fault("duty(d)", -1);
        fault("duty!d", -1);
        fault("duty(d)5", 7);
        fault("duty d(5)", 6);
        fault("duty d!5", 6);
    }

    private static void faultsOfSigns() {
        fault("duty +", 5);
        fault("duty -1", 5);
        fault("duty 1+", 7);
        fault("duty 1++1", 7);
        fault("duty 1+-1", 7);
        fault("duty 1<2<3", 8);
        fault("duty 1<2=3", 8);
        fault("duty 1=2>3", 8);
        fault("duty 1<=2", 7);
        fault("duty (1<2)<3", -1);
        fault("duty 1<2&3<4|5>6", -1);
        fault("duty 1<2&3<4<5", 12);
        fault("duty 1|2<3+4>5", 12);
        fault("duty ()", 6);
        fault("duty (1))", 8);
        fault("duty 1)", 6);
        fault("duty (1 2)", 8);
        fault("duty )", 5);
        fault("duty (1<2<3)", 9);
        fault("duty 1!", 6);
        fault("duty !+1", 6);
        fault("duty 1=!2", -1);
        fault("duty 1&&2", 7);
        fault("duty 1||2", 7);
        fault("duty 1*/2", 7);
        fault("duty %", 5);
    }

    private static void faultsOfDepth() {
        fault("duty ((((((((1))))))))", -1);
        fault("duty (((((((((1)))))))))", 13);
        fault("duty !!!!!!!!1", -1);
        fault("duty !!!!!!!!!1", 13);
        fault("duty !(!(!(!(!(!(!(!(1))))))))", -1);
        fault("duty !(!(!(!(!(!(!(!(!(1)))))))))", 21);
        fault("duty !!!!(!!!!(!1))", 15);
        fault("duty !!!!(!!!!(1))+!!!!!!!!1", -1);
        fault("duty ((((!((((1)))))))))", 23);
        fault("duty ((((!(((((1", 14);
        fault("duty ((((!((((!1))))))))", -1);
        fault("duty ((((((((1)+(1)))))))", 25);
        fault("duty (((((((1)+(1)))))))", -1);
        fault("duty ((((((((1))))))))+((((((((1))))))))", -1);
        fault("duty !!!!!!!!1+!!!!!!!!!1", 23);
        fault("duty !!!!!!!!(1+!1)", 16);
    }

    private static void faultsOfStrangeBytes() {
        fault("duty D", 5);
        fault("duty d_", 6);
        fault("duty d\t", 6);
        fault("duty\nd", 4);
        fault("duty d\0", 6);
        fault("\0", 0);
        fault("duty " + (char) 255, 5);
        fault("duty d" + (char) 228, 6);
        fault("duty " + (char) ('d' + 128), 5);
        fault((char) 160 + "duty d", 0);
        fault("duty `", 5);
        fault("duty {", 5);
        fault("duty :", 5);
    }

    private static void faultsAtTheEnd() {
        fault("", 0);
        fault(" ", 1);
        fault("            ", 12);
        fault("duty", 4);
        fault("duty  ", 6);
        fault("duty 1 +  ", 10);
        fault("duty (1", 7);
        fault("duty !", 6);
        fault("duty (", 6);
        fault("duty 1 < ", 9);
        fault("duty " + "1+".repeat(45) + "1", -1);
        fault("duty " + "1+".repeat(45), 95);
        fault("duty " + "1+".repeat(45) + " ", 96);
    }

    private static void blanksWhereverTheyMayBe() {
        fault("  duty   d  +  ( t * 2 )  ", -1);
        fault("duty ! ! d", -1);
        fault("duty ( ( d ) )", -1);
        fault("du ty d", 0);
        fault("duty 1 2", 7);
        fault(" ".repeat(90) + "duty d", -1);
        fault("duty d" + " ".repeat(90), -1);
        WordLeash x = new WordLeash();
        x.traveller();
        Due.text(x, "  bill  2  *  ( 3 + 4 )  -  ! 5 ");
        Due.is("blanks change no value", x.bill(0), 14);
    }

    private static void promise30() {
        WordLeash x = new WordLeash();
        Due.text(x, "fine s+s*12-(l)");
        Due.text(x, "duty 1");
        Due.text(x, "bill !p|n&0");
        int[][] due = {{2, 4}, {0, 1}, {1, 3}};
        for (int text = 0; text < 3; text++) {
            Due.is("KEY of " + text, x.textTold(text, 0), due[text][0]);
            Due.is("NUMBERS and NAMES of " + text, x.textTold(text, 1), due[text][1]);
        }
        int[][] wrong = {{3, 0}, {-1, 0}, {0, 2}, {0, -1}, {13, 0}, {14, 0}, {MOST, 0}, {LEAST, 1}};
        for (int[] w : wrong) {
            Due.is("textTold wrong", x.textTold(w[0], w[1]), BAD);
        }
    }

    private static void promise31() {
        WordLeash x = new WordLeash();
        Due.is("none yet", x.why(0), NONE);
        Due.text(x, "duty 1");
        Due.text(x, "fine 1");
        Due.text(x, "duty 2");
        Due.text(x, "duty (");
        Due.is("the last of duty", x.why(0), 2);
        Due.is("none of bill", x.why(1), NONE);
        Due.is("that of fine", x.why(2), 1);
        for (int key : new int[] {-1, 3, MOST, LEAST}) {
            Due.is("why wrong", x.why(key), BAD);
        }
    }

    private static void textsAreKeptByAnImage() {
        WordLeash x = new WordLeash();
        x.word(0, 1, 40, 9);
        Due.text(x, "duty 1");
        x.keep();
        Due.text(x, "duty 2");
        Due.text(x, "fine 7");
        Due.is("the later one counts", x.told(0, 6), 2);
        x.back();
        Due.is("texts as then", x.count(7), 1);
        Due.is("the earlier one counts again", x.told(0, 6), 1);
        Due.is("no fine", x.why(2), NONE);
        Due.is("not told any more", x.textTold(1, 0), BAD);
        Due.is("its number is free again", Due.text(x, "bill 3"), 1);
        Due.is("duty is as it was", x.why(0), 0);
    }
}
