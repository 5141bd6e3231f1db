/** The bounds that "Terms" names in section 4, a sentence each. */
public final class EdgesOfTextsTest {
    private static final int BAD = WordLeash.BAD, FULL = WordLeash.FULL, NONE = WordLeash.NONE;
    private static final int MOST = Integer.MAX_VALUE, LEAST = Integer.MIN_VALUE, IS_A_TEXT = -1;
    private static final String[] KEYS = {"duty", "bill", "fine"};
    private static final String[] NAMES = {"dtq", "pn", "sl"};
    private static final String WRAPS = "8192*8192*32";

    public static void main(String[] args) {
        fourteenTextsAtMost();
        ninetySixBytesAtMost();
        theTapeIsUsedUpWhateverIsAnswered();
        theTapeKeepsItsFirstBytes();
        theHighestByteIsFirst();
        keysAreThree();
        namesGoByTheKey();
        numbersHave1To4Digits();
        eightMayBeOpenWithinOthers();
        eightBesideOneAnotherToo();
        eightNotsMayBeOpen();
        eightOfEachThroughTheOther();
        anyByteBehindAPiece();
        anyByteWhereAPieceIsDue();
        anyByteAtFirst();
        blanksBetweenAndAtTheEnds();
        aWordBehindAWordNeedsABlank();
        aWordIsAsLongAsItGoes();
        anEndThatComesTooSoon();
        anEndIsBehindTheLastByte();
        oneComparisonATest();
        intsWrap();
        byZeroIsZero();
        divisionCutsTowardsZero();
        whatIsNotZeroIsTrue();
        theLoosestFirst();
        ofAKeyTheLastOneCounts();
        numbersAndNamesCountEachTime();
        Due.end("EdgesOfTextsTest");
    }

    private static int told(String text) {
        return Due.text(new WordLeash(), text);
    }

    private static void ends(String text, int place) {
        Due.is("\"" + text + "\"", told(text), place == IS_A_TEXT ? 0 : -100 - place);
    }

    /** What a formula of fine gives, with two STAMPS and one WORD that is LEARNT. */
    private static void gives(String formula, int due) {
        WordLeash x = new WordLeash();
        x.word(0, 1, 1, 9);
        x.traveller();
        x.traveller();
        x.cross(0, 1);
        x.cross(1, 1);
        Due.is(formula + ": a TEXT", Due.text(x, "fine " + formula), 0);
        Due.is(formula, x.fine(), due);
    }

    private static void fourteenTextsAtMost() {
        WordLeash x = new WordLeash();
        for (int i = 0; i < 14; i++) {
            Due.is("not told yet", x.textTold(i, 0), BAD);
            Due.is("the next", Due.text(x, "fine " + i), i);
            Due.is("told", x.textTold(i, 0), 2);
        }
        Due.is("the fifteenth", Due.text(x, "fine 99"), FULL);
        Due.is("still fourteen", x.count(7), 14);
        Due.is("the fourteenth counts", x.fine(), 13);
        Due.is("a fifteenth is not told", x.textTold(14, 0), BAD);
    }

    private static void ninetySixBytesAtMost() {
        WordLeash x = new WordLeash();
        for (int had = 0; had <= 96; had++) {
            x = new WordLeash();
            for (int i = 0; i < 8; i++) {
                x.feed(0, 0, 0);
            }
            Due.is("trimmed", x.trim(had), had);
            Due.is("twelve beside " + had, x.feed(0, 0, 0), had <= 84 ? had + 12 : FULL);
            Due.is("bytes then", x.count(9), had <= 84 ? had + 12 : had);
        }
        Due.is("a TEXT of 96 bytes", told("fine " + "s+".repeat(45) + "s"), 0);
        Due.is("its 91st byte counts", told("fine " + "s+".repeat(45) + "+"), -195);
    }

    private static void theTapeIsUsedUpWhateverIsAnswered() {
        WordLeash x = new WordLeash();
        Due.tape(x, "fine 1");
        Due.is("a TEXT", x.text(), 0);
        Due.is("used up", x.count(9), 0);
        Due.tape(x, "fine +");
        Due.is("a FAULT", x.text(), -105);
        Due.is("used up", x.count(9), 0);
        Due.is("an empty tape", x.text(), -100);
        for (int i = 0; i < 13; i++) {
            Due.text(x, "fine 1");
        }
        Due.tape(x, "fine 1");
        Due.is("FULL", x.text(), FULL);
        Due.is("used up", x.count(9), 0);
        Due.is("then it is empty", x.text(), -100);
        Due.is("and takes bytes again", x.feed(0, 0, 0), 12);
    }

    private static void theTapeKeepsItsFirstBytes() {
        for (int n = 6; n <= 9; n++) {
            WordLeash x = new WordLeash();
            Due.tape(x, "fine 1234");
            Due.is("trim", x.trim(n), n);
            x.text();
            Due.is("the first " + n, x.fine(), new int[] {1, 12, 123, 1234}[n - 6]);
        }
        WordLeash x = new WordLeash();
        Due.tape(x, "fine 1234");
        for (int n : new int[] {10, 12, -1, MOST, LEAST}) {
            Due.is("trim to " + n, x.trim(n), BAD);
        }
        Due.is("all stay", x.count(9), 9);
        x.trim(5);
        Due.tape(x, "77");
        x.text();
        Due.is("more come behind those that stay", x.fine(), 77);
    }

    private static void theHighestByteIsFirst() {
        WordLeash x = new WordLeash();
        x.feed(0x66696E65, 0x20313233, 0x342D3132);
        x.text();
        Due.is("fine 1234-12", x.fine(), 1222);
        x.feed(-1, -1, -1);
        Due.is("a byte of 255 is a sign", x.text(), -100);
    }

    private static void keysAreThree() {
        for (int key = 0; key < 3; key++) {
            WordLeash x = new WordLeash();
            Due.is("none yet", x.why(key), NONE);
            Due.is(KEYS[key], Due.text(x, KEYS[key] + " 1"), 0);
            for (int other = 0; other < 3; other++) {
                Due.is("why " + other, x.why(other), other == key ? 0 : NONE);
            }
            Due.is("KEY", x.textTold(0, 0), key);
            for (int i = 0; i < 4; i++) {
                String shorter = KEYS[key].substring(0, i) + KEYS[key].substring(i + 1);
                ends(shorter + " 1", 0);
                ends(KEYS[key].substring(0, i) + "z" + KEYS[key].substring(i) + " 1", 0);
                ends(KEYS[key].substring(0, i) + "z" + KEYS[key].substring(i + 1) + " 1", 0);
                ends(KEYS[key].substring(0, i) + " " + KEYS[key].substring(i) + " 1", i == 0 ? IS_A_TEXT : 0);
            }
        }
        Due.is("no KEY 3", new WordLeash().why(3), BAD);
        Due.is("no KEY below", new WordLeash().why(-1), BAD);
    }

    private static void namesGoByTheKey() {
        for (int key = 0; key < 3; key++) {
            for (char letter = 'a'; letter <= 'z'; letter++) {
                boolean name = NAMES[key].indexOf(letter) >= 0;
                ends(KEYS[key] + " " + letter, name ? IS_A_TEXT : 5);
                ends(KEYS[key] + " 1+" + letter, name ? IS_A_TEXT : 7);
                ends(KEYS[key] + " " + letter + letter, 5);
                ends(KEYS[key] + " " + Character.toUpperCase(letter), 5);
            }
        }
    }

    private static void numbersHave1To4Digits() {
        for (int digits = 1; digits <= 91; digits++) {
            ends("fine " + "7".repeat(digits), digits <= 4 ? IS_A_TEXT : 5);
        }
        ends("fine 1+00001", 7);
        ends("fine 1+0001", IS_A_TEXT);
        ends("fine 12345)", 5);
        gives("0", 0);
        gives("0000", 0);
        gives("0009", 9);
        gives("9999", 9999);
    }

    private static String open(int brackets) {
        return "(".repeat(brackets);
    }

    private static String shut(int brackets) {
        return ")".repeat(brackets);
    }

    private static void eightMayBeOpenWithinOthers() {
        for (int brackets = 0; brackets <= 12; brackets++) {
            int place = brackets <= 8 ? IS_A_TEXT : 13;
            ends("fine " + open(brackets) + "s" + shut(brackets), place);
            ends("fine " + "(".repeat(brackets) + "1", brackets == 0 ? IS_A_TEXT : brackets <= 8 ? brackets + 6 : 13);
        }
        ends("fine " + open(7) + "s+(s+(s))" + shut(7), 17);
        ends("fine " + open(7) + "s+(s)+(s)" + shut(7), IS_A_TEXT);
        ends("fine ((((((((((", 13);
    }

    private static void eightBesideOneAnotherToo() {
        ends("fine " + open(8) + "s" + shut(8) + "+" + open(8) + "s" + shut(8), IS_A_TEXT);
        ends("fine " + open(8) + "s" + shut(8) + "+" + open(9) + "s" + shut(9), 31);
        ends("fine " + "(s)+".repeat(12) + "s", IS_A_TEXT);
        ends("fine " + "!s+".repeat(12) + "s", IS_A_TEXT);
    }

    private static void eightNotsMayBeOpen() {
        for (int nots = 0; nots <= 12; nots++) {
            ends("fine " + "!".repeat(nots) + "s", nots <= 8 ? IS_A_TEXT : 13);
            ends("fine " + "! ".repeat(nots) + "s", nots <= 8 ? IS_A_TEXT : 21);
        }
        ends("fine !!!!!!!!s+!!!!!!!!s", IS_A_TEXT);
        ends("fine !!!!!!!!s+!!!!!!!!!s", 23);
        ends("fine !!!!!!!!!", 13);
    }

    private static void eightOfEachThroughTheOther() {
        ends("fine " + "!(".repeat(8) + "s" + shut(8), IS_A_TEXT);
        ends("fine " + "!(".repeat(9) + "s" + shut(9), 21);
        ends("fine " + "(!".repeat(8) + "s" + shut(8), IS_A_TEXT);
        ends("fine " + "(!".repeat(9) + "s" + shut(9), 21);
        ends("fine " + "!".repeat(8) + open(8) + "s" + shut(8), IS_A_TEXT);
        ends("fine " + "!".repeat(8) + open(8) + "!s" + shut(8), 21);
        ends("fine " + "!".repeat(8) + open(8) + "(s)" + shut(8), 21);
        ends("fine " + open(8) + "!".repeat(8) + "s" + shut(8), IS_A_TEXT);
        ends("fine " + open(8) + "!".repeat(8) + "(s)" + shut(8), 21);
        ends("fine " + open(8) + "!".repeat(8) + "!s" + shut(8), 21);
        ends("fine " + "!".repeat(8) + "(s)+!s", IS_A_TEXT);
        ends("fine " + "!".repeat(7) + "(s+!s+!s)", IS_A_TEXT);
        ends("fine " + "!".repeat(7) + "(s+!s+!!s)", 19);
        ends("fine " + "!".repeat(8) + "(s+1*!s)", 18);
        ends("fine " + open(8) + "s" + shut(1) + "+!(s)" + shut(7), IS_A_TEXT);
        ends("fine " + open(8) + "s+!(s)" + shut(8), 16);
    }

    private static void anyByteBehindAPiece() {
        for (int b = 0; b < 256; b++) {
            char c = (char) b;
            boolean letter = c >= 'a' && c <= 'z';
            boolean joins = "|&<=>+-*/".indexOf(c) >= 0;
            ends("fine s" + c, c == ' ' ? IS_A_TEXT : letter ? 5 : joins ? 7 : 6);
            ends("fine s " + c, c == ' ' ? IS_A_TEXT : joins ? 8 : 7);
            ends("fine s" + c + "s", letter ? 5 : c == ' ' ? 7 : joins ? IS_A_TEXT : 6);
        }
    }

    private static void anyByteWhereAPieceIsDue() {
        for (int b = 0; b < 256; b++) {
            char c = (char) b;
            boolean digit = c >= '0' && c <= '9';
            boolean leads = c == '(' || c == '!' || c == ' ';
            ends("fine " + c, c == 's' || c == 'l' || digit ? IS_A_TEXT : leads ? 6 : 5);
            ends("fine s+" + c, c == 's' || c == 'l' || digit ? IS_A_TEXT : leads ? 8 : 7);
        }
    }

    private static void anyByteAtFirst() {
        for (int b = 0; b < 256; b++) {
            char c = (char) b;
            ends(c + "fine s", c == ' ' ? IS_A_TEXT : 0);
            ends("" + c, c == ' ' ? 1 : 0);
        }
    }

    private static void blanksBetweenAndAtTheEnds() {
        ends(" fine s", IS_A_TEXT);
        ends("fine s ", IS_A_TEXT);
        ends("   fine   (   s   +   !   l   )   ", IS_A_TEXT);
        ends("fine(s)", IS_A_TEXT);
        ends("fine!s", IS_A_TEXT);
        ends(" ".repeat(90) + "fine s", IS_A_TEXT);
        ends("fine s" + " ".repeat(90), IS_A_TEXT);
        ends("fine " + " ".repeat(90) + "s", IS_A_TEXT);
        ends("fine\ts", 4);
        ends("fine\u00a0s", 4);
        ends("fine\0s", 4);
        ends("fine\ns", 4);
    }

    private static void aWordBehindAWordNeedsABlank() {
        ends("fine7", 4);
        ends("fine7+s", 4);
        ends("fine 7", IS_A_TEXT);
        ends("fine 7s", 6);
        ends("fine s7", 6);
        ends("fine 7 s", 7);
        ends("fine s 7", 7);
        ends("fine s l", 7);
        ends("fine 7 7", 7);
        ends("fine (s)7", 8);
        ends("fine 7(s)", 6);
        ends("fine 7+s*7", IS_A_TEXT);
        ends("7fine s", 0);
        ends("fine fine s", 5);
        ends("fine7777777", 4);
    }

    private static void aWordIsAsLongAsItGoes() {
        ends("fines", 0);
        ends("finess", 0);
        ends("fine sl", 5);
        ends("fine sss", 5);
        ends("fine s+ll", 7);
        ends("fine s+le", 7);
        ends("finefine s", 0);
        ends("finE s", 0);
        ends("fine 1 2345", 7);
    }

    private static void anEndThatComesTooSoon() {
        String whole = "fine !(s+12)*l|0";
        for (int n = 0; n < whole.length(); n++) {
            boolean stops = n == 12 || n == 14;
            int place = n < 4 && n > 0 ? 0 : n;
            ends(whole.substring(0, n), stops ? IS_A_TEXT : place);
        }
        ends(whole, IS_A_TEXT);
        for (String sign : new String[] {"|", "&", "<", "=", ">", "+", "-", "*", "/"}) {
            ends("fine s" + sign, 7);
        }
        ends("fine (", 6);
        ends("fine !", 6);
        ends("fine (s", 7);
        ends("fine ((s)", 9);
        ends("fine", 4);
        ends("", 0);
    }

    private static void anEndIsBehindTheLastByte() {
        for (int blanks = 0; blanks <= 88; blanks += 8) {
            ends(" ".repeat(blanks), blanks);
            ends("fine" + " ".repeat(blanks), 4 + blanks);
            ends("fine s+" + " ".repeat(blanks), 7 + blanks);
            ends("fine (s" + " ".repeat(blanks), 7 + blanks);
        }
        ends(" ".repeat(96), 96);
        ends("fine s+" + " ".repeat(89), 96);
        ends("fine " + "(".repeat(8) + "s" + " ".repeat(82), 96);
        ends("fine " + "s+".repeat(45) + "!", 96);
    }

    private static void oneComparisonATest() {
        for (String first : new String[] {"<", "=", ">"}) {
            ends("fine s" + first + "l", IS_A_TEXT);
            for (String second : new String[] {"<", "=", ">"}) {
                ends("fine s" + first + "l" + second + "1", 8);
                ends("fine (s" + first + "l)" + second + "1", IS_A_TEXT);
                ends("fine s" + first + "l&1" + second + "1", IS_A_TEXT);
                ends("fine s" + first + "l|1" + second + "1", IS_A_TEXT);
                ends("fine s" + first + "l+1" + second + "1", 10);
                ends("fine s" + first + second + "l", 7);
            }
        }
    }

    private static void intsWrap() {
        gives(WRAPS, LEAST);
        gives(WRAPS + "-1", MOST);
        gives(WRAPS + "-1+1", LEAST);
        gives("0-" + WRAPS, LEAST);
        gives("0-" + WRAPS + "-1", MOST);
        gives("(" + WRAPS + ")*2", 0);
        gives("(" + WRAPS + "-1)*2", -2);
        gives("(" + WRAPS + "-1)*(" + WRAPS + "-1)", 1);
        gives("(" + WRAPS + ")/(0-1)", LEAST);
        gives("(" + WRAPS + ")*(0-1)", LEAST);
        gives("9999*9999*9999*9999", 9999 * 9999 * 9999 * 9999);
        gives(WRAPS + "<0", 1);
        gives(WRAPS + "-1>0", 1);
        gives("0-" + WRAPS + "=" + WRAPS, 1);
        gives("(" + WRAPS + ")<(" + WRAPS + "-1)", 1);
        gives("(" + WRAPS + "-1)>(" + WRAPS + ")", 1);
    }

    private static void byZeroIsZero() {
        gives("1/0", 0);
        gives("0/0", 0);
        gives("s/(l-1)", 0);
        gives("(0-9)/0", 0);
        gives("(" + WRAPS + ")/0", 0);
        gives("5+9/0", 5);
        gives("9/0/0", 0);
        gives("9/(9/0)", 0);
        gives("1/(1/2)", 0);
        gives("7/!7", 0);
    }

    private static void divisionCutsTowardsZero() {
        gives("7/2", 3);
        gives("(0-7)/2", -3);
        gives("7/(0-2)", -3);
        gives("(0-7)/(0-2)", 3);
        gives("1/2", 0);
        gives("(0-1)/2", 0);
        gives("6/2", 3);
    }

    private static void whatIsNotZeroIsTrue() {
        gives("5&7", 1);
        gives("(0-1)&(0-2)", 1);
        gives("4&3", 1);
        gives("5&0", 0);
        gives("0&5", 0);
        gives("0&0", 0);
        gives("5|0", 1);
        gives("0|5", 1);
        gives("5|7", 1);
        gives("0|(0-1)", 1);
        gives("0|0", 0);
        gives("!0", 1);
        gives("!1", 0);
        gives("!5", 0);
        gives("!(0-5)", 0);
        gives("!!5", 1);
        gives("!(" + WRAPS + ")", 0);
        gives("(" + WRAPS + ")&1", 1);
        gives("3<4", 1);
        gives("4<4", 0);
        gives("4=4", 1);
        gives("4=5", 0);
        gives("4>4", 0);
        gives("5>4", 1);
        gives("0|1/0", 0);
        gives("1|1/0", 1);
    }

    private static void theLoosestFirst() {
        gives("1|1&0", 1);
        gives("0&1|1", 1);
        gives("2&3<3", 0);
        gives("1|0<0", 1);
        gives("2<1+2", 1);
        gives("1+2<3", 0);
        gives("3=1+1*2", 1);
        gives("2*3+4", 10);
        gives("2+3*4", 14);
        gives("9-3-3", 3);
        gives("9/3/3", 1);
        gives("9/3*3", 9);
        gives("9*2/4", 4);
        gives("9-3+3", 9);
        gives("!0+1", 2);
        gives("!0*5", 5);
        gives("!0=1", 1);
        gives("!1|1", 1);
        gives("2*(3+4)", 14);
        gives("(1|1)&0", 0);
    }

    private static void ofAKeyTheLastOneCounts() {
        WordLeash x = new WordLeash();
        x.word(0, 1, 50, 9);
        x.traveller();
        for (int i = 0; i < 4; i++) {
            Due.text(x, "duty " + (10 + i));
            Due.text(x, "bill " + (20 + i));
            Due.text(x, "fine " + (30 + i));
            Due.text(x, "duty 1+");
            Due.is("duty", x.told(0, 6), 10 + i);
            Due.is("bill", x.bill(0), 20 + i);
            Due.is("fine", x.fine(), 30 + i);
            for (int key = 0; key < 3; key++) {
                Due.is("why", x.why(key), 3 * i + key);
            }
        }
        x.keep();
        Due.text(x, "duty 77");
        Due.text(x, "duty 88");
        Due.is("FULL: the last one that came in counts", Due.text(x, "duty 99"), FULL);
        Due.is("duty", x.told(0, 6), 88);
        x.back();
        Due.is("of THE IMAGE that one", x.told(0, 6), 13);
    }

    private static void numbersAndNamesCountEachTime() {
        String[] texts = {"fine s", "fine 7", "fine s+s+s", "fine 12*12", "fine !(s)|((l))", "fine !!!!!!!!1",
            "fine " + "s+".repeat(45) + "s"};
        int[] due = {1, 1, 3, 2, 2, 1, 46};
        WordLeash x = new WordLeash();
        for (int i = 0; i < texts.length; i++) {
            Due.text(x, texts[i]);
            Due.is(texts[i], x.textTold(i, 1), due[i]);
        }
    }
}
