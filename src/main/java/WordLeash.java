/** Words on a leash, as ../shared/DOC.md promises them. */
public final class WordLeash {
    public static final int BAD = -1000000001, NO = -1000000002, FULL = -1000000003, NONE = -1000000005,
        NOTHING = -1000000011, KIND = -1000000012, INDEX = -1000000013, SIZE = -1000000014;

    private static final int MOST_WORDS = 10, MOST_TRAVELLERS = 6, MOST_SENSES = 255, MOST_DUTY = 99, MOST_QUOTA = 99;
    private static final int MOST_PATIENCE = 10, MOST_CATCH = 100, LAST_DAY = 9999, MOST_DAYS = 60;
    private static final int MOST_DAYS_TO_TURN = 200, MOST_DAYS_TOLD = 30, MOST_THOUGHT_QUOTA = 20;
    private static final int MOST_TEXTS = 14, MOST_BYTES = 96, BYTES_OF_A_FEED = 12, FAULTS_FROM = -100;
    private static final int SHEETS = 4, SLOTS = 5, MOST_PLACES = 24, MOST_FLOAT = 99999, MOST_WAITING = 60;

    private static final int WORD = 0, VERB = 1, HUMMED = 2, SIGH = 3, DRIED = 4, FREE = 5, KINDS = 6;
    private static final int DUTY = 0, BILL = 1, FINE = 2, KEYS = 3;
    private static final int MISSING = -1, SHORTS = 0, FLOATS = 1;
    private static final int HOLDS_NOTHING = 0, HOLDS_WORD = 1, HOLDS_SHEET = 2, HOLDS_NUMBER = 3;

    private final Laws laws = new Laws();
    private final Border now = new Border(laws);
    private final Border image = new Border(laws);
    private final Border thought = new Border(laws);
    private final Sayings sayings = new Sayings(now);
    private final int[] tape = new int[MOST_BYTES];
    private final Parser parser = new Parser(tape);
    private final Row[] sheets = new Row[SHEETS];
    private final Slot[] slots = new Slot[SLOTS];
    private final int[] waiting = new int[MOST_WAITING];
    private int tapeLength;
    private int waits;
    private boolean hasImage;

    public WordLeash() {
        for (int i = 0; i < SHEETS; i++) {
            sheets[i] = new Row();
        }
        for (int i = 0; i < SLOTS; i++) {
            slots[i] = new Slot();
        }
    }

    // ---- words, travellers

    public int word(int kind, int senses, int duty, int quota) {
        boolean fits = isKind(kind) && within(senses, 1, MOST_SENSES)
            && within(duty, 0, MOST_DUTY) && within(quota, 0, MOST_QUOTA);
        if (!fits) {
            return BAD;
        }
        if (now.wordCount >= MOST_WORDS) {
            return FULL;
        }
        return now.addWord(kind, senses, duty, quota);
    }

    public int told(int word, int what) {
        if (!now.hasWord(word)) {
            return BAD;
        }
        Word one = now.words[word];
        switch (what) {
            case 0: return one.kind;
            case 1: return one.senses;
            case 2: return one.duty;
            case 3: return one.quota;
            case 4: return one.stamps;
            case 5: return one.today;
            case 6: return now.costsOf(one);
            case 7: return one.worth();
            case 8: return now.learnt >> word & 1;
            default: return BAD;
        }
    }

    public int as(int word, int kind) {
        if (!now.hasWord(word) || !isKind(kind)) {
            return BAD;
        }
        return now.words[word].isOf(kind) ? now.words[word].duty : KIND;
    }

    public int turns(int word, int kind) {
        if (!now.hasWord(word) || !isKind(kind)) {
            return BAD;
        }
        int was = now.words[word].kind;
        now.words[word].kind = kind;
        return was;
    }

    public int set(int word, int what, int v) {
        if (!now.hasWord(word)) {
            return BAD;
        }
        Word one = now.words[word];
        int was = BAD;
        if (what == 1 && within(v, 1, MOST_SENSES)) {
            was = one.senses;
            one.senses = v;
        } else if (what == 2 && within(v, 0, MOST_DUTY)) {
            was = one.duty;
            one.duty = v;
        } else if (what == 3 && within(v, 0, MOST_QUOTA)) {
            was = one.quota;
            one.quota = v;
        }
        return was;
    }

    public int traveller() {
        if (now.travellerCount >= MOST_TRAVELLERS) {
            return FULL;
        }
        return now.addTraveller();
    }

    public int travels(int traveller, int what) {
        if (!now.hasTraveller(traveller) || !within(what, 0, 1)) {
            return BAD;
        }
        Traveller one = now.travellers[traveller];
        return what == 0 ? one.holds : one.paid;
    }

    public int gives(int traveller, int set) {
        if (!now.hasTraveller(traveller) || !now.hasAll(set)) {
            return BAD;
        }
        int held = now.travellers[traveller].holds;
        now.travellers[traveller].holds = set;
        return held;
    }

    public int rule(int what, int v) {
        int was = BAD;
        if (what == 0 && within(v, 1, MOST_PATIENCE)) {
            was = now.patience;
            now.patience = v;
        } else if (what == 1 && within(v, 0, MOST_CATCH)) {
            was = now.catches;
            now.catches = v;
        }
        return was;
    }

    public int deal(int n) {
        if (!within(n, 1, MOST_WORDS)) {
            return BAD;
        }
        int came = Math.min(n, MOST_WORDS - now.wordCount);
        for (int i = 0; i < came; i++) {
            now.drawWord();
        }
        return came;
    }

    public int seed(int v) {
        int was = now.z;
        now.z = v;
        return was;
    }

    // ---- the border

    public int cross(int traveller, int set) {
        if (!now.hasTraveller(traveller) || !now.hasAll(set)) {
            return BAD;
        }
        return now.crosses(now.travellers[traveller], set);
    }

    public int man(int what) {
        switch (what) {
            case 0: return now.learnt;
            case 1: return now.isTurned() ? 1 : 0;
            default: return BAD;
        }
    }

    public int forget() {
        int had = Integer.bitCount(now.learnt);
        now.learnt = 0;
        return had;
    }

    public int days(int n) {
        if (!within(n, 1, MOST_DAYS)) {
            return BAD;
        }
        int before = now.stampsOfAll();
        int many = Math.min(n, LAST_DAY - now.day);
        for (int i = 0; i < many; i++) {
            now.dayPasses();
        }
        return now.stampsOfAll() - before;
    }

    // ---- what can be said

    public int says(int traveller, int senses) {
        if (!now.hasTraveller(traveller) || !isSenses(senses)) {
            return BAD;
        }
        return now.haveAll(now.travellers[traveller].holds, senses) ? 1 : 0;
    }

    public int cheapest(int traveller, int senses, int what) {
        if (!now.hasTraveller(traveller) || !isSenses(senses) || !within(what, 0, 1)) {
            return BAD;
        }
        int held = now.travellers[traveller].holds;
        int set = sayings.cheapestBeside(held, senses);
        if (set == NONE) {
            return NONE;
        }
        return what == 0 ? sayings.priceOf(set & ~held) : set;
    }

    public int shortest(int traveller, int senses) {
        if (!now.hasTraveller(traveller) || !isSenses(senses)) {
            return BAD;
        }
        return sayings.fewestOf(now.travellers[traveller].holds, 0, senses);
    }

    public int nearest(int traveller, int senses, int n) {
        if (!now.hasTraveller(traveller) || !isSenses(senses) || !within(n, 0, MOST_WORDS)) {
            return BAD;
        }
        return sayings.mostSenses(now.travellers[traveller].holds, senses, n);
    }

    public int treaty(int senses) {
        if (!isSenses(senses)) {
            return BAD;
        }
        return sayings.fewestOf(now.allWords(), now.heldByAll(), senses);
    }

    public int behind(int traveller, int n, int what) {
        if (!now.hasTraveller(traveller) || !within(n, 0, MOST_DAYS) || !within(what, 0, 2)) {
            return BAD;
        }
        thought.becomes(now);
        for (int i = 0; i < n; i++) {
            thought.dayPasses();
        }
        switch (what) {
            case 0: return thought.paidByAll();
            case 1: return thought.travellers[traveller].holds;
            default: return thought.learnt;
        }
    }

    public int turnsBy() {
        thought.becomes(now);
        for (int i = 0; i < MOST_DAYS_TO_TURN; i++) {
            if (thought.isTurned()) {
                return i;
            }
            thought.dayPasses();
        }
        return thought.isTurned() ? MOST_DAYS_TO_TURN : NONE;
    }

    public int quota(int sheet, int word, int what) {
        if (!isSheet(sheet) || !now.hasWord(word) || !within(what, 0, 1)) {
            return BAD;
        }
        if (sheets[sheet].isMissing()) {
            return NOTHING;
        }
        int best = 0;
        int least = differences(sheets[sheet], word, 0);
        for (int tried = 1; tried <= MOST_THOUGHT_QUOTA; tried++) {
            int together = differences(sheets[sheet], word, tried);
            if (together < least) {
                least = together;
                best = tried;
            }
        }
        return what == 0 ? best : least;
    }

    private int differences(Row row, int word, int tried) {
        thought.becomes(now);
        Word one = thought.words[word];
        one.quota = tried;
        int together = 0;
        for (int k = 0; k < row.length; k++) {
            if (k > 0) {
                thought.dayPasses();
            }
            if (row.isNumber(k)) {
                together += Math.abs(one.stamps - row.places[k]);
            }
        }
        return together;
    }

    public int bill(int traveller) {
        if (!now.hasTraveller(traveller)) {
            return BAD;
        }
        Traveller one = now.travellers[traveller];
        int text = now.countingText(BILL);
        return text == NONE ? one.paid : laws.value(text, one.paid, Integer.bitCount(one.holds), 0);
    }

    public int fine() {
        int stamps = now.stampsOfAll();
        int text = now.countingText(FINE);
        return text == NONE ? stamps : laws.value(text, stamps, Integer.bitCount(now.learnt), 0);
    }

    // ---- texts

    public int feed(int a, int b, int c) {
        if (tapeLength + BYTES_OF_A_FEED > MOST_BYTES) {
            return FULL;
        }
        addBytes(a);
        addBytes(b);
        addBytes(c);
        return tapeLength;
    }

    private void addBytes(int four) {
        for (int shift = 24; shift >= 0; shift -= 8) {
            tape[tapeLength] = four >> shift & 255;
            tapeLength++;
        }
    }

    public int trim(int n) {
        if (!within(n, 0, tapeLength)) {
            return BAD;
        }
        tapeLength = n;
        return n;
    }

    public int text() {
        parser.parse(tapeLength);
        tapeLength = 0;
        if (parser.fault >= 0) {
            return FAULTS_FROM - parser.fault;
        }
        if (now.textCount >= MOST_TEXTS) {
            return FULL;
        }
        int number = now.textCount;
        laws.becomes(number, parser);
        now.textCount++;
        return number;
    }

    public int textTold(int text, int what) {
        if (!within(text, 0, now.textCount - 1) || !within(what, 0, 1)) {
            return BAD;
        }
        return what == 0 ? laws.keys[text] : laws.leaves[text];
    }

    public int why(int key) {
        if (!within(key, 0, KEYS - 1)) {
            return BAD;
        }
        return now.countingText(key);
    }

    // ---- sheets, slots

    public int sheet(int sheet, int sort, int n) {
        if (!isSheet(sheet) || !within(sort, MISSING, FLOATS)) {
            return BAD;
        }
        if (sort == MISSING) {
            sheets[sheet].clear(MISSING, 0);
            return 0;
        }
        if (n > MOST_PLACES) {
            return BAD;
        }
        if (n < 0) {
            return SIZE;
        }
        sheets[sheet].clear(sort, n);
        return n;
    }

    public int mark(int sheet, int place, int v) {
        if (!isSheet(sheet)) {
            return BAD;
        }
        Row row = sheets[sheet];
        if (row.isMissing()) {
            return NOTHING;
        }
        if (!row.hasPlace(place)) {
            return INDEX;
        }
        if (row.sort == SHORTS && v == NONE) {
            return KIND;
        }
        if (row.sort == FLOATS && v != NONE && !within(v, -MOST_FLOAT, MOST_FLOAT)) {
            return BAD;
        }
        row.places[place] = row.sort == SHORTS ? (short) v : v;
        return 1;
    }

    public int pour(int sheet) {
        if (!isSheet(sheet)) {
            return BAD;
        }
        Row row = sheets[sheet];
        if (row.isMissing()) {
            return NOTHING;
        }
        int otherwise = 0;
        for (int i = 0; i < now.wordCount && i < row.length; i++) {
            int was = now.words[i].duty;
            if (row.isNumber(i)) {
                now.words[i].duty = held(row.places[i], MOST_DUTY);
            }
            if (now.words[i].duty != was) {
                otherwise++;
            }
        }
        return otherwise;
    }

    public int reads(int sheet) {
        if (!isSheet(sheet)) {
            return BAD;
        }
        Row row = sheets[sheet];
        if (row.isMissing()) {
            return NOTHING;
        }
        for (int i = 0; i < row.length; i++) {
            boolean same = now.hasWord(i) && now.words[i].stamps == row.places[i];
            if (row.isNumber(i) && !same) {
                return i;
            }
        }
        return NONE;
    }

    public int copy(int from, int place, int to, int at, int many) {
        if (!isSheet(from) || !isSheet(to)) {
            return BAD;
        }
        Row source = sheets[from];
        Row target = sheets[to];
        if (source.isMissing() || target.isMissing()) {
            return NOTHING;
        }
        if (source.sort != target.sort) {
            return KIND;
        }
        if (!source.hasSpan(place, many) || !target.hasSpan(at, many)) {
            return INDEX;
        }
        System.arraycopy(source.places, place, target.places, at, many);
        return many;
    }

    public int lay(int slot, int thing, int k) {
        if (!isSlot(slot) || !within(thing, HOLDS_NOTHING, HOLDS_NUMBER)) {
            return BAD;
        }
        if (thing == HOLDS_WORD && !now.hasWord(k) || thing == HOLDS_SHEET && !isSheet(k)) {
            return BAD;
        }
        if (thing == HOLDS_SHEET && sheets[k].isMissing()) {
            return NOTHING;
        }
        Slot one = slots[slot];
        int held = one.holds;
        one.holds = thing;
        if (thing == HOLDS_WORD) {
            one.word.becomes(now.words[k]);
        } else if (thing == HOLDS_SHEET) {
            one.row.becomes(sheets[k]);
        } else {
            one.number = k;
        }
        return held;
    }

    public int ask(int slot, int kind) {
        if (!isSlot(slot) || !isKind(kind)) {
            return BAD;
        }
        Slot one = slots[slot];
        if (one.holds == HOLDS_NOTHING) {
            return NOTHING;
        }
        if (one.holds != HOLDS_WORD || !one.word.isOf(kind)) {
            return KIND;
        }
        return one.word.worth();
    }

    public int item(int slot, int place) {
        if (!isSlot(slot)) {
            return BAD;
        }
        Slot one = slots[slot];
        if (one.holds == HOLDS_NOTHING) {
            return NOTHING;
        }
        if (one.holds != HOLDS_SHEET) {
            return KIND;
        }
        if (!one.row.hasPlace(place)) {
            return INDEX;
        }
        return one.row.isNumber(place) ? one.row.places[place] : KIND;
    }

    public int rest(int slot, int n) {
        if (!isSlot(slot)) {
            return BAD;
        }
        Slot one = slots[slot];
        if (one.holds == HOLDS_NOTHING) {
            return NOTHING;
        }
        if (one.holds != HOLDS_NUMBER) {
            return KIND;
        }
        return n == 0 ? NO : one.number % n;
    }

    // ---- rows, images

    public int tell(int v) {
        if (waits >= MOST_WAITING) {
            return FULL;
        }
        waiting[waits] = v;
        waits++;
        return waits;
    }

    public int check(int n) {
        int told = waits;
        waits = 0;
        if (!within(n, 1, MOST_DAYS_TOLD)) {
            return BAD;
        }
        if (!hasImage) {
            return NO;
        }
        int many = Math.min(n, LAST_DAY - image.day);
        thought.becomes(image);
        int right = 0;
        for (int i = 0; i < many; i++) {
            thought.dayPasses();
            if (right >= told || waiting[right] != thought.paidByAll()) {
                return 1 + right;
            }
            right++;
            if (right >= told || waiting[right] != thought.stampsOfAll()) {
                return 1 + right;
            }
            right++;
        }
        return right == told ? 0 : 1 + right;
    }

    public int keep() {
        image.becomes(now);
        hasImage = true;
        return image.wordCount;
    }

    public int back() {
        if (!hasImage) {
            return NO;
        }
        now.becomes(image);
        return now.wordCount;
    }

    public int count(int what) {
        switch (what) {
            case 0: return now.wordCount;
            case 1: return now.travellerCount;
            case 2: return now.day;
            case 3: return now.patience;
            case 4: return now.catches;
            case 5: return now.paidByAll();
            case 6: return now.stampsOfAll();
            case 7: return now.textCount;
            case 8: return waits;
            case 9: return tapeLength;
            case 10: return now.z;
            default: return BAD;
        }
    }

    // ---- what many calls ask first

    private static boolean within(int v, int least, int most) {
        return v >= least && v <= most;
    }

    private static int held(int v, int most) {
        return Math.max(0, Math.min(v, most));
    }

    private static boolean isKind(int kind) {
        return within(kind, 0, KINDS - 1);
    }

    private static boolean isSenses(int senses) {
        return within(senses, 0, MOST_SENSES);
    }

    private static boolean isSheet(int sheet) {
        return within(sheet, 0, SHEETS - 1);
    }

    private static boolean isSlot(int slot) {
        return within(slot, 0, SLOTS - 1);
    }

    private static final class Word {
        private static final int[] ABOVE = {WORD, WORD, WORD, VERB, HUMMED, WORD};

        int kind;
        int senses;
        int duty;
        int quota;
        int stamps;
        int today;

        void becomes(Word other) {
            kind = other.kind;
            senses = other.senses;
            duty = other.duty;
            quota = other.quota;
            stamps = other.stamps;
            today = other.today;
        }

        boolean isOf(int asked) {
            // No KIND stands more than two below WORD, so one look at what is above is enough.
            return asked == WORD || asked == kind || asked == ABOVE[kind];
        }

        int costs(int asWord) {
            int asVerb = today >= quota / 2 ? 2 * asWord : asWord;
            int asHummed = asWord / 2;
            switch (kind) {
                case VERB: return asVerb;
                case SIGH: return asVerb + 3;
                case HUMMED: return asHummed;
                case DRIED: return Math.max(0, asHummed - 2);
                case FREE: return 0;
                default: return asWord;
            }
        }

        int worth() {
            switch (kind) {
                case VERB: return duty + 6;
                case SIGH: return 2 * (duty + 6);
                case HUMMED: return MOST_DUTY - duty;
                case DRIED: return MOST_DUTY - duty - 5;
                case FREE: return Integer.bitCount(senses);
                default: return duty;
            }
        }
    }

    private static final class Traveller {
        int holds;
        int paid;

        void becomes(Traveller other) {
            holds = other.holds;
            paid = other.paid;
        }
    }

    /** All that AN IMAGE keeps. TEXTS are only added behind those of THE IMAGE, so how many there are is enough. */
    private static final class Border {
        private static final int MOST_COSTS = 999;

        final Laws laws;
        final Word[] words = new Word[MOST_WORDS];
        final Traveller[] travellers = new Traveller[MOST_TRAVELLERS];
        int wordCount;
        int travellerCount;
        int textCount;
        int learnt;
        int patience = 6;
        int catches = 50;
        int day;
        int z = 1;

        Border(Laws laws) {
            this.laws = laws;
            for (int i = 0; i < MOST_WORDS; i++) {
                words[i] = new Word();
            }
            for (int i = 0; i < MOST_TRAVELLERS; i++) {
                travellers[i] = new Traveller();
            }
        }

        void becomes(Border other) {
            wordCount = other.wordCount;
            travellerCount = other.travellerCount;
            textCount = other.textCount;
            learnt = other.learnt;
            patience = other.patience;
            catches = other.catches;
            day = other.day;
            z = other.z;
            for (int i = 0; i < wordCount; i++) {
                words[i].becomes(other.words[i]);
            }
            for (int i = 0; i < travellerCount; i++) {
                travellers[i].becomes(other.travellers[i]);
            }
        }

        /** Called with room for one more only. */
        int addWord(int kind, int senses, int duty, int quota) {
            Word one = words[wordCount];
            one.kind = kind;
            one.senses = senses;
            one.duty = duty;
            one.quota = quota;
            // The place may have been a WORD's before THE IMAGE came back.
            one.stamps = 0;
            one.today = 0;
            return wordCount++;
        }

        /** Called with room for one more only. */
        int addTraveller() {
            Traveller one = travellers[travellerCount];
            one.holds = 0;
            one.paid = 0;
            return travellerCount++;
        }

        void drawWord() {
            int kind = draw() % KINDS;
            int senses = 1 + draw() % 255;
            int duty = draw() % 50;
            int quota = draw() % 10;
            addWord(kind, senses, duty, quota);
        }

        int draw() {
            z = z * 1103515245 + 12345;
            return z >>> 8;
        }

        boolean hasWord(int word) {
            return within(word, 0, wordCount - 1);
        }

        boolean hasTraveller(int traveller) {
            return within(traveller, 0, travellerCount - 1);
        }

        int allWords() {
            return (1 << wordCount) - 1;
        }

        boolean hasAll(int set) {
            return within(set, 0, allWords());
        }

        boolean haveAll(int set, int senses) {
            return (senses & ~sensesOf(set)) == 0;
        }

        int sensesOf(int set) {
            int senses = 0;
            for (int i = 0; i < wordCount; i++) {
                if ((set >> i & 1) == 1) {
                    senses |= words[i].senses;
                }
            }
            return senses;
        }

        int heldByAll() {
            int held = 0;
            for (int i = 0; i < travellerCount; i++) {
                held |= travellers[i].holds;
            }
            return held;
        }

        int paidByAll() {
            int paid = 0;
            for (int i = 0; i < travellerCount; i++) {
                paid += travellers[i].paid;
            }
            return paid;
        }

        int stampsOfAll() {
            int stamps = 0;
            for (int i = 0; i < wordCount; i++) {
                stamps += words[i].stamps;
            }
            return stamps;
        }

        boolean isTurned() {
            return Integer.bitCount(learnt) >= patience;
        }

        int countingText(int key) {
            for (int i = textCount - 1; i >= 0; i--) {
                if (laws.keys[i] == key) {
                    return i;
                }
            }
            return NONE;
        }

        int costsOf(Word word) {
            int text = countingText(DUTY);
            if (text == NONE) {
                return word.costs(word.duty);
            }
            return word.costs(held(laws.value(text, word.duty, word.today, word.quota), MOST_COSTS));
        }

        int crosses(Traveller traveller, int set) {
            int came = 0;
            for (int i = 0; i < wordCount; i++) {
                int bit = 1 << i;
                if ((set & bit) == 0 || (traveller.holds & bit) != 0) {
                    continue;
                }
                Word word = words[i];
                if (isTurned() || slipsBy(word)) {
                    came |= bit;
                } else if (word.today < word.quota) {
                    traveller.paid += costsOf(word);
                    word.stamps++;
                    word.today++;
                    learnt |= bit;
                    came |= bit;
                }
            }
            traveller.holds |= came;
            return came;
        }

        private boolean slipsBy(Word word) {
            return word.isOf(HUMMED) && draw() % 100 >= catches;
        }

        void dayPasses() {
            for (int i = 0; i < wordCount; i++) {
                words[i].today = 0;
            }
            for (int i = 0; i < travellerCount; i++) {
                int set = draw() % 1024 & allWords();
                crosses(travellers[i], set);
            }
            day++;
        }
    }

    private static final class Sayings {
        private final Border border;
        private final int[] prices = new int[MOST_WORDS];

        Sayings(Border border) {
            this.border = border;
        }

        int cheapestBeside(int held, int senses) {
            readPrices();
            int best = NONE;
            int leastPrice = 0;
            int leastMany = 0;
            int all = border.allWords();
            for (int set = 0; set <= all; set++) {
                if (!border.haveAll(set, senses)) {
                    continue;
                }
                int price = priceOf(set & ~held);
                int many = Integer.bitCount(set & ~held);
                if (best == NONE || price < leastPrice || price == leastPrice && many < leastMany) {
                    best = set;
                    leastPrice = price;
                    leastMany = many;
                }
            }
            return best;
        }

        private void readPrices() {
            for (int i = 0; i < border.wordCount; i++) {
                prices[i] = border.costsOf(border.words[i]);
            }
        }

        int priceOf(int set) {
            int price = 0;
            for (int i = 0; i < border.wordCount; i++) {
                if ((set >> i & 1) == 1) {
                    price += prices[i];
                }
            }
            return price;
        }

        /** The fewest of some WORDS that have SENSES together with those that are there already; NONE. */
        int fewestOf(int some, int already, int senses) {
            int best = NONE;
            int least = 0;
            for (int set = 0; set <= some; set++) {
                int many = Integer.bitCount(set);
                boolean fewer = best == NONE || many < least;
                if ((set & ~some) == 0 && fewer && border.haveAll(set | already, senses)) {
                    best = set;
                    least = many;
                }
            }
            return best;
        }

        int mostSenses(int held, int senses, int n) {
            int most = 0;
            for (int set = 0; set <= held; set++) {
                if ((set & ~held) == 0 && Integer.bitCount(set) <= n) {
                    most = Math.max(most, Integer.bitCount(senses & border.sensesOf(set)));
                }
            }
            return most;
        }
    }

    /** TEXTS, each as a row of steps: numbers as they are, names and operators below 0, operands first. */
    private static final class Laws {
        private static final int FIRST_NAME = -1, SECOND_NAME = -2, THIRD_NAME = -3, NOT = -4;

        final int[][] steps = new int[MOST_TEXTS][MOST_BYTES];
        final int[] lengths = new int[MOST_TEXTS];
        final int[] keys = new int[MOST_TEXTS];
        final int[] leaves = new int[MOST_TEXTS];
        private final int[] stack = new int[MOST_BYTES];

        void becomes(int text, Parser parser) {
            System.arraycopy(parser.steps, 0, steps[text], 0, parser.stepCount);
            lengths[text] = parser.stepCount;
            keys[text] = parser.key;
            leaves[text] = parser.leaves;
        }

        int value(int text, int first, int second, int third) {
            int top = -1;
            for (int i = 0; i < lengths[text]; i++) {
                int step = steps[text][i];
                if (step >= THIRD_NAME) {
                    top++;
                    stack[top] = leaf(step, first, second, third);
                } else if (step == NOT && top >= 0) {
                    stack[top] = stack[top] == 0 ? 1 : 0;
                } else if (top >= 1) {
                    top--;
                    stack[top] = joined(-step, stack[top], stack[top + 1]);
                }
            }
            return stack[0];
        }

        private static int leaf(int step, int first, int second, int third) {
            switch (step) {
                case FIRST_NAME: return first;
                case SECOND_NAME: return second;
                case THIRD_NAME: return third;
                default: return step;
            }
        }

        private static int joined(int sign, int left, int right) {
            switch (sign) {
                case '|': return left != 0 || right != 0 ? 1 : 0;
                case '&': return left != 0 && right != 0 ? 1 : 0;
                case '<': return left < right ? 1 : 0;
                case '=': return left == right ? 1 : 0;
                case '>': return left > right ? 1 : 0;
                case '+': return left + right;
                case '-': return left - right;
                case '*': return left * right;
                default: return right == 0 ? 0 : left / right;
            }
        }
    }

    private static final class Parser {
        private static final int END = 0, LETTERS = 1, DIGITS = 2, SIGN = 3, BLANK = 4;
        private static final int OR = 0, AND = 1, TEST = 2, SUM = 3, TERM = 4, PIECE = 5;
        private static final int MOST_DIGITS = 4, MOST_OPEN = 8, KEY_LETTERS = 4, NAMES_OF_A_KEY = 3;
        private static final char[] KEY_WORDS = {'d', 'u', 't', 'y', 'b', 'i', 'l', 'l', 'f', 'i', 'n', 'e'};
        // bill and fine have two names; a blank is never a letter.
        private static final char[] NAMES = {'d', 't', 'q', 'p', 'n', ' ', 's', 'l', ' '};

        final int[] steps = new int[MOST_BYTES];
        int stepCount;
        int key;
        int leaves;
        int fault;
        private final int[] bytes;
        private int length;
        private int start;
        private int end;
        private int sort;
        private boolean needsBlank;

        Parser(int[] tape) {
            bytes = tape;
        }

        /** Leaves fault below 0, if the first bytes, so many, are a TEXT. */
        void parse(int many) {
            length = many;
            stepCount = 0;
            leaves = 0;
            fault = -1;
            end = 0;
            sort = END;
            advance();
            key = keyHere();
            if (key == NONE) {
                fail();
                return;
            }
            advance();
            expression(OR, 0, 0);
            if (sort != END) {
                fail();
            }
        }

        private void fail() {
            if (fault < 0) {
                fault = start;
            }
        }

        private void advance() {
            int before = end;
            boolean behindWord = isWord();
            start = end;
            while (start < length && sortAt(start) == BLANK) {
                start++;
            }
            sort = sortAt(start);
            end = start < length ? start + 1 : start;
            while (end < length && isWord() && sortAt(end) == sort) {
                end++;
            }
            needsBlank = behindWord && isWord() && start == before;
        }

        private boolean isWord() {
            return sort == LETTERS || sort == DIGITS;
        }

        private int sortAt(int place) {
            if (place < 0 || place >= length) {
                return END;
            }
            int one = bytes[place];
            if (one >= 'a' && one <= 'z') {
                return LETTERS;
            }
            if (one >= '0' && one <= '9') {
                return DIGITS;
            }
            return one == ' ' ? BLANK : SIGN;
        }

        private int keyHere() {
            for (int k = 0; k < KEYS; k++) {
                boolean same = sort == LETTERS && end - start == KEY_LETTERS;
                for (int i = 0; same && i < KEY_LETTERS; i++) {
                    same = bytes[start + i] == KEY_WORDS[KEY_LETTERS * k + i];
                }
                if (same) {
                    return k;
                }
            }
            return NONE;
        }

        private int signHere() {
            return sort == SIGN ? bytes[start] : END;
        }

        private static int levelOf(int sign) {
            switch (sign) {
                case '|': return OR;
                case '&': return AND;
                case '<': case '=': case '>': return TEST;
                case '+': case '-': return SUM;
                case '*': case '/': return TERM;
                default: return NONE;
            }
        }

        private void expression(int level, int brackets, int nots) {
            if (level >= PIECE) {
                piece(brackets, nots);
                return;
            }
            expression(level + 1, brackets, nots);
            int most = level == TEST ? 1 : MOST_BYTES;
            for (int i = 0; i < most && fault < 0 && levelOf(signHere()) == level; i++) {
                int sign = signHere();
                advance();
                expression(level + 1, brackets, nots);
                addStep(-sign);
            }
        }

        private void piece(int brackets, int nots) {
            int sign = signHere();
            // One more than may be open is no leaf either, so it ends as a FAULT at its own place.
            if (sign == '!' && nots < MOST_OPEN) {
                advance();
                piece(brackets, nots + 1);
                addStep(Laws.NOT);
            } else if (sign == '(' && brackets < MOST_OPEN) {
                advance();
                expression(OR, brackets + 1, nots);
                close();
            } else {
                leaf();
            }
        }

        private void close() {
            if (signHere() == ')') {
                advance();
            } else {
                fail();
            }
        }

        private void leaf() {
            int step = sort == DIGITS ? numberHere() : nameHere();
            if (step == NONE || needsBlank) {
                fail();
                return;
            }
            addStep(step);
            leaves++;
            advance();
        }

        private int numberHere() {
            if (end - start > MOST_DIGITS) {
                return NONE;
            }
            int number = 0;
            for (int i = start; i < end; i++) {
                number = 10 * number + bytes[i] - '0';
            }
            return number;
        }

        private int nameHere() {
            if (sort != LETTERS || end - start != 1) {
                return NONE;
            }
            for (int i = 0; i < NAMES_OF_A_KEY; i++) {
                if (bytes[start] == NAMES[NAMES_OF_A_KEY * key + i]) {
                    return Laws.FIRST_NAME - i;
                }
            }
            return NONE;
        }

        private void addStep(int step) {
            if (stepCount < MOST_BYTES) {
                steps[stepCount] = step;
                stepCount++;
            }
        }
    }

    private static final class Row {
        int sort = MISSING;
        int length;
        /** NONE stands for NO NUMBER: no place can hold it as a number. */
        final int[] places = new int[MOST_PLACES];

        void clear(int newSort, int newLength) {
            sort = newSort;
            length = newLength;
            for (int i = 0; i < MOST_PLACES; i++) {
                places[i] = 0;
            }
        }

        void becomes(Row other) {
            sort = other.sort;
            length = other.length;
            System.arraycopy(other.places, 0, places, 0, MOST_PLACES);
        }

        boolean isMissing() {
            return sort == MISSING;
        }

        boolean hasPlace(int place) {
            return within(place, 0, length - 1);
        }

        boolean hasSpan(int place, int many) {
            return within(place, 0, length) && within(many, 0, length - place);
        }

        boolean isNumber(int place) {
            return hasPlace(place) && places[place] != NONE;
        }
    }

    private static final class Slot {
        int holds = HOLDS_NOTHING;
        int number;
        final Word word = new Word();
        final Row row = new Row();
    }
}
