import java.util.Arrays;

/** News that goes by mouth through hands, each of whom changes just one letter by a vow. */
public final class OneLetterWrong {
    public static final int NONE = -1;

    private static final int MOST_HANDS = 8;
    private static final int MOST_WORDS = 40;
    private static final int MOST_APART = 16;
    private static final int MOST_BYTES = 300;
    private static final int MOST_TEXTS = 4;
    private static final int MOST_CLAUSES = 24;
    private static final int MOST_TOLD = 40;
    private static final int MOST_PRIOR = 9;
    private static final int MOST_TIME = 99;
    private static final int MOST_NUMBER = 9999;

    private final Words words;
    private final Book kept;
    private final Book imageKept;
    private final Log told;
    private final Log imageTold;
    private final int[] tape = new int[MOST_BYTES];
    private int tapeLength = 0;
    private final Text[] texts = new Text[MOST_TEXTS];
    private int textCount = 0;
    private int imageTextCount = 0;
    private int ruling = NONE;
    private int imageRuling = NONE;
    private int latestFault = NONE;
    private int latestFaultAt = NONE;
    private final Reader reader;
    private final Vow vow;
    private final Paths paths;
    private final Counts counts;
    private final Breakers breakers;

    public OneLetterWrong(int a, int l) {
        words = new Words(a, l);
        kept = new Book(words);
        imageKept = new Book(words);
        told = new Log();
        imageTold = new Log();
        for (int i = 0; i < MOST_TEXTS; i++) {
            texts[i] = new Text();
        }
        reader = new Reader(words);
        vow = new Vow(words);
        paths = new Paths(words, vow);
        counts = new Counts(words, vow);
        breakers = new Breakers(words, vow);
    }

    public int put(int word, int prior) {
        return kept.add(word, prior) ? kept.size : NONE;
    }

    public int take(int word) {
        return kept.drop(word) ? kept.size : NONE;
    }

    public int feed(int a, int b, int c, int d, int e) {
        if (tapeLength + 20 > MOST_BYTES) {
            return NONE;
        }
        append(a);
        append(b);
        append(c);
        append(d);
        append(e);
        return tapeLength;
    }

    public int end(int n) {
        if (n < 0 || n > tapeLength) {
            return NONE;
        }
        tapeLength = n;
        return n;
    }

    public int text() {
        if (textCount < 0 || textCount >= MOST_TEXTS) {
            return NONE;
        }
        latestFault = reader.read(tape, tapeLength, texts[textCount]);
        latestFaultAt = reader.wrongAt;
        tapeLength = 0;
        if (latestFault != 0) {
            return NONE;
        }
        textCount++;
        return textCount - 1;
    }

    public int fault(int what) {
        if (what == 0) {
            return latestFault;
        }
        return what == 1 ? latestFaultAt : NONE;
    }

    public boolean by(int text) {
        if (text != NONE && !isText(text)) {
            return false;
        }
        rule(text);
        return true;
    }

    public int filled(int text) {
        if (!isText(text)) {
            return NONE;
        }
        Text source = texts[text];
        int added = 0;
        for (int i = 0; i < source.entries && i < MOST_CLAUSES; i++) {
            if (kept.add(source.entryWord[i], source.entryPrior[i])) {
                added++;
            }
        }
        return added;
    }

    public int book(int i) {
        if (i == NONE) {
            return kept.size;
        }
        return kept.has(i) ? kept.word[i] : NONE;
    }

    public int bars(int from, int into, int n) {
        if (!words.isWord(from) || !words.isWord(into) || !isHands(n)) {
            return NONE;
        }
        if (!words.canTurn(words.unlike(from, into), n)) {
            return 1;
        }
        vow.prepare(n);
        paths.trace(into, n, n);
        return paths.leads(from) ? 0 : 2;
    }

    public long ways(int from, int into, int n) {
        if (!words.isWord(from) || !words.isWord(into) || !isHands(n)) {
            return NONE;
        }
        vow.prepare(n);
        counts.count(into, n);
        return counts.waysOf(from);
    }

    public int row(int from, int into, int n, int i) {
        if (!words.isWord(from) || !words.isWord(into) || !isHands(n) || i < 0 || i >= n) {
            return NONE;
        }
        vow.prepare(n);
        paths.trace(into, n, n);
        return paths.leads(from) ? paths.firstDeed(from, i) : NONE;
    }

    public int heard(int from, int n, int i) {
        if (!words.isWord(from) || !isHands(n)) {
            return NONE;
        }
        vow.prepare(n);
        paths.spread(from, n);
        int found = 0;
        for (int word = 0; word < words.count; word++) {
            if (paths.isReached(word, n)) {
                if (found == i) {
                    return word;
                }
                found++;
            }
        }
        return i == NONE ? found : NONE;
    }

    public long odds(int heard, int n, int k, int what) {
        if (!words.isWord(heard) || !isHands(n) || !kept.has(k) || what < 0 || what > 1) {
            return NONE;
        }
        vow.prepare(n);
        counts.count(heard, n);
        long all = 0;
        for (int i = 0; i < kept.size; i++) {
            all += kept.prior[i] * counts.waysOf(kept.word[i]);
        }
        if (all <= 0) {
            return NONE;
        }
        long part = kept.prior[k] * counts.waysOf(kept.word[k]);
        long common = greatestCommon(all, part);
        if (common <= 0) {
            return NONE;
        }
        return (what == 0 ? part : all) / common;
    }

    public boolean road(int from, int into, int road) {
        if (!words.isWord(from) || !words.isWord(into) || !isRoad(road)) {
            return false;
        }
        traceRoad(into, road);
        return paths.leads(from);
    }

    public int fits(int one, int road, int other, int way, int i) {
        if (!words.isWord(one) || !words.isWord(other) || !isRoad(road) || !isRoad(way)) {
            return NONE;
        }
        // both roads are traced into the same rows, so the first answers are kept aside
        traceRoad(one, road);
        long byOne = leadingWords();
        traceRoad(other, way);
        long byBoth = byOne & leadingWords();
        int found = 0;
        for (int k = 0; k < kept.size; k++) {
            if ((byBoth >> k & 1L) != 0) {
                if (found == i) {
                    return kept.word[k];
                }
                found++;
            }
        }
        return i == NONE ? found : NONE;
    }

    public int tree(int what) {
        if (what < 0 || what > 1) {
            return NONE;
        }
        int sum = 0;
        for (int depth = 0; depth <= words.length; depth++) {
            sum += kept.treeAt(depth, what == 1);
        }
        return sum;
    }

    public boolean shares(int i, int j, int k) {
        if (!kept.has(i) || !kept.has(j) || k < 0 || k > words.length) {
            return false;
        }
        return kept.sameEnds(kept.word[i], kept.word[j], k);
    }

    public int near(int word, int w, int i) {
        if (!words.isWord(word) || w < 0 || w > words.length) {
            return NONE;
        }
        int found = 0;
        for (int k = 0; k < kept.size; k++) {
            if (words.unlike(word, kept.word[k]) <= w) {
                if (found == i) {
                    return kept.word[k];
                }
                found++;
            }
        }
        return i == NONE ? found : NONE;
    }

    public int apart(int n) {
        if (kept.size > MOST_APART || !isHands(n)) {
            return NONE;
        }
        vow.prepare(n);
        return paths.apartOf(kept, n);
    }

    public boolean log(int n) {
        if (!isHands(n)) {
            return false;
        }
        told.begin(n);
        return true;
    }

    public int said(int hand, int word, int time) {
        if (word != NONE && !words.isWord(word)) {
            return NONE;
        }
        if (!isTime(time) || hand < 0 || hand > told.hands) {
            return NONE;
        }
        return told.add(hand, word, time) ? told.size : NONE;
    }

    public int broke(int time, int what) {
        if (!isTime(time) || what < 0 || what > 1) {
            return NONE;
        }
        vow.prepare(told.hands);
        int least = breakers.least(told, time);
        return what == 0 ? least >> MOST_HANDS : least & (1 << MOST_HANDS) - 1;
    }

    public int message(int seed, int word, int n) {
        if (seed < 0 || seed > MOST_NUMBER || !words.isWord(word) || n < 1 || n > MOST_HANDS) {
            return NONE;
        }
        vow.prepare(n);
        return vow.carry(seed, word, n);
    }

    public int image() {
        imageKept.become(kept);
        imageTold.become(told);
        imageTextCount = textCount;
        imageRuling = ruling;
        return kept.size;
    }

    public int back() {
        kept.become(imageKept);
        told.become(imageTold);
        // texts are only ever added behind those of the image, so their number is enough
        textCount = imageTextCount;
        rule(imageRuling);
        return kept.size;
    }

    public int about(int what) {
        switch (what) {
            case 0: return words.letters;
            case 1: return words.length;
            case 2: return words.count;
            case 3: return textCount;
            case 4: return ruling;
            case 5: return kept.size;
            case 6: return told.hands;
            case 7: return told.size;
            case 8: return tapeLength;
            case 9: return isText(ruling) ? texts[ruling].roads : 0;
            default: return what >= 10 && kept.has(what - 10) ? kept.prior[what - 10] : -2;
        }
    }

    private void append(int four) {
        for (int shift = 24; shift >= 0; shift -= 8) {
            if (tapeLength >= 0 && tapeLength < MOST_BYTES) {
                tape[tapeLength] = four >>> shift & 255;
                tapeLength++;
            }
        }
    }

    private boolean isText(int number) {
        return number >= 0 && number < textCount && number < MOST_TEXTS;
    }

    private static boolean isHands(int n) {
        return n >= 0 && n <= MOST_HANDS;
    }

    private static boolean isTime(int time) {
        return time >= 0 && time <= MOST_TIME;
    }

    private boolean isRoad(int number) {
        return isText(ruling) && number >= 0 && number < texts[ruling].roads && number < MOST_CLAUSES;
    }

    private void rule(int number) {
        if (number != ruling) {
            ruling = number;
            vow.ruledBy(isText(number) ? texts[number] : null);
        }
    }

    private void traceRoad(int into, int number) {
        if (isRoad(number)) {
            int most = texts[ruling].roadMost[number];
            vow.prepare(most);
            paths.trace(into, texts[ruling].roadLeast[number], most);
        }
    }

    /** Of the traced paths: the words of the book that lead there, as bits by its order. */
    private long leadingWords() {
        long bits = 0;
        for (int k = 0; k < kept.size; k++) {
            if (paths.leads(kept.word[k])) {
                bits |= 1L << k;
            }
        }
        return bits;
    }

    private static long greatestCommon(long one, long other) {
        long high = one;
        long low = other;
        // Euclid's steps on longs stay below a hundred
        for (int i = 0; i < 200 && low != 0; i++) {
            long rest = high % low;
            high = low;
            low = rest;
        }
        return high;
    }

    /** The words of this size: letters as figures, the first one the highest. */
    private static final class Words {
        private static final int MOST_COUNT = 256;

        private final int letters;
        private final int length;
        private final int count;
        private final int[] power;
        private final int[] letterAt;

        Words(int wantedLetters, int wantedLength) {
            letters = Math.max(2, Math.min(5, wantedLetters));
            length = lengthFor(letters, wantedLength);
            count = raised(letters, length);
            power = new int[length];
            for (int place = 0; place < length; place++) {
                power[place] = raised(letters, length - 1 - place);
            }
            letterAt = new int[count * length];
            for (int word = 0; word < count; word++) {
                int rest = word;
                for (int place = length - 1; place >= 0; place--) {
                    letterAt[word * length + place] = rest % letters;
                    rest /= letters;
                }
            }
        }

        private static int lengthFor(int letters, int wanted) {
            int length = Math.max(2, Math.min(8, wanted));
            for (int i = 0; i < 8 && raised(letters, length) > MOST_COUNT; i++) {
                length--;
            }
            return length;
        }

        static int raised(int base, int times) {
            int product = 1;
            for (int i = 0; i < times; i++) {
                product *= base;
            }
            return product;
        }

        boolean isWord(int word) {
            return word >= 0 && word < count;
        }

        int letter(int word, int place) {
            return letterAt[word * length + place];
        }

        /** The word with the first of the letters at a place. */
        int cleared(int word, int place) {
            return word - letterAt[word * length + place] * power[place];
        }

        int changed(int word, int place, int into) {
            return cleared(word, place) + into * power[place];
        }

        int unlike(int one, int other) {
            int places = 0;
            for (int place = 0; place < length; place++) {
                if (letter(one, place) != letter(other, place)) {
                    places++;
                }
            }
            return places;
        }

        /** Whether n free changes can mend so many places: of two letters each spare pair undoes itself. */
        boolean canTurn(int places, int n) {
            if (n < places) {
                return false;
            }
            if (letters == 2) {
                return (n - places) % 2 == 0;
            }
            return places > 0 || n != 1;
        }
    }

    /** Words with priors, in the order in which they were put in. */
    private static final class Book {
        private final Words words;
        private final int[] word = new int[MOST_WORDS];
        private final int[] prior = new int[MOST_WORDS];
        private final boolean[] holds;
        private int size = 0;

        Book(Words words) {
            this.words = words;
            holds = new boolean[words.count];
        }

        boolean has(int i) {
            return i >= 0 && i < size && i < MOST_WORDS;
        }

        boolean add(int newWord, int newPrior) {
            if (!words.isWord(newWord) || newPrior < 1 || newPrior > MOST_PRIOR) {
                return false;
            }
            if (holds[newWord] || size >= MOST_WORDS) {
                return false;
            }
            word[size] = newWord;
            prior[size] = newPrior;
            holds[newWord] = true;
            size++;
            return true;
        }

        boolean drop(int oldWord) {
            if (!words.isWord(oldWord) || !holds[oldWord]) {
                return false;
            }
            holds[oldWord] = false;
            int left = 0;
            for (int i = 0; i < size; i++) {
                if (word[i] != oldWord) {
                    word[left] = word[i];
                    prior[left] = prior[i];
                    left++;
                }
            }
            size = left;
            return true;
        }

        void become(Book other) {
            System.arraycopy(other.word, 0, word, 0, MOST_WORDS);
            System.arraycopy(other.prior, 0, prior, 0, MOST_WORDS);
            for (int i = 0; i < holds.length && i < other.holds.length; i++) {
                holds[i] = other.holds[i];
            }
            size = other.size;
        }

        /** Whether the first letters of two words are completed by just the same ends. */
        boolean sameEnds(int one, int other, int depth) {
            int span = Words.raised(words.letters, words.length - depth);
            if (span <= 0) {
                return false;
            }
            int oneFirst = one - one % span;
            int otherFirst = other - other % span;
            if (oneFirst == otherFirst) {
                return true;
            }
            for (int rest = 0; rest < span; rest++) {
                if (holds[oneFirst + rest] != holds[otherFirst + rest]) {
                    return false;
                }
            }
            return true;
        }

        /** Of the nodes behind so many letters: how many, or how many arcs go out of them. */
        int treeAt(int depth, boolean arcs) {
            int sum = 0;
            for (int i = 0; i < size; i++) {
                if (isFirstOfNode(i, depth)) {
                    sum += arcs ? arcsOf(word[i], depth) : 1;
                }
            }
            return sum;
        }

        private boolean isFirstOfNode(int i, int depth) {
            for (int j = 0; j < i; j++) {
                if (sameEnds(word[j], word[i], depth)) {
                    return false;
                }
            }
            return true;
        }

        private int arcsOf(int member, int depth) {
            if (depth >= words.length) {
                return 0;
            }
            int span = Words.raised(words.letters, words.length - depth - 1);
            int wholeSpan = span * words.letters;
            int first = wholeSpan > 0 ? member - member % wholeSpan : 0;
            int arcs = 0;
            for (int letter = 0; letter < words.letters; letter++) {
                if (holdsAny(first + letter * span, span)) {
                    arcs++;
                }
            }
            return arcs;
        }

        private boolean holdsAny(int first, int span) {
            for (int i = first; i < first + span && i < holds.length; i++) {
                if (holds[i]) {
                    return true;
                }
            }
            return false;
        }
    }

    /** What was told of a row of hands, in the order in which it was told. */
    private static final class Log {
        private int hands = 0;
        private int size = 0;
        private final int[] hand = new int[MOST_TOLD];
        private final int[] word = new int[MOST_TOLD];
        private final int[] time = new int[MOST_TOLD];

        void begin(int n) {
            hands = n;
            size = 0;
        }

        boolean add(int newHand, int newWord, int newTime) {
            if (size >= MOST_TOLD) {
                return false;
            }
            hand[size] = newHand;
            word[size] = newWord;
            time[size] = newTime;
            size++;
            return true;
        }

        /** The word behind so many hands as of a time, NONE if nothing is known of it. */
        int known(int behind, int asOf) {
            for (int i = size - 1; i >= 0; i--) {
                if (hand[i] == behind && time[i] <= asOf) {
                    return word[i];
                }
            }
            return NONE;
        }

        void become(Log other) {
            hands = other.hands;
            size = other.size;
            System.arraycopy(other.hand, 0, hand, 0, MOST_TOLD);
            System.arraycopy(other.word, 0, word, 0, MOST_TOLD);
            System.arraycopy(other.time, 0, time, 0, MOST_TOLD);
        }
    }

    /** A text without fault: its clauses, the formulas as codes for a stack. */
    private static final class Text {
        private final int[] code = new int[MOST_BYTES];
        private int codes = 0;
        private boolean usesHand = false;
        private boolean hasMay = false;
        private int mayStart = 0;
        private int mayStop = 0;
        private boolean hasWeight = false;
        private int weightStart = 0;
        private int weightStop = 0;
        private final int[] entryWord = new int[MOST_CLAUSES];
        private final int[] entryPrior = new int[MOST_CLAUSES];
        private int entries = 0;
        private final int[] roadLeast = new int[MOST_CLAUSES];
        private final int[] roadMost = new int[MOST_CLAUSES];
        private int roads = 0;

        void clear() {
            codes = 0;
            usesHand = false;
            hasMay = false;
            hasWeight = false;
            entries = 0;
            roads = 0;
        }

        void emit(int newCode) {
            if (codes < MOST_BYTES) {
                code[codes] = newCode;
                codes++;
            }
        }

        void addEntry(int word, int prior) {
            if (entries < MOST_CLAUSES) {
                entryWord[entries] = word;
                entryPrior[entries] = prior;
                entries++;
            }
        }

        void addRoad(int least, int most) {
            if (roads < MOST_CLAUSES) {
                roadLeast[roads] = least;
                roadMost[roads] = most;
                roads++;
            }
        }
    }

    /** The tape cut into tokens; the last one is the end. */
    private static final class Tokens {
        private static final int END = 0;
        private static final int LETTERS = 1;
        private static final int NUMBER = 2;
        private static final int NO_TOKEN = 3;
        // signs of one byte are their own kind
        private static final int AT_MOST = 256;
        private static final int AT_LEAST = 257;
        private static final String SIGNS = "<>=#+-*/();";

        // the names of formulas come first, by their numbers there
        private static final int MAY = 6;
        private static final int WEIGHT = 7;
        private static final int BOOK = 8;
        private static final int ROAD = 9;
        private static final int TO = 10;
        private static final int OR = 11;
        private static final int AND = 12;
        private static final int NOT = 13;
        private static final int NAMES = 14;

        private final Words words;
        private final int[] kind = new int[MOST_BYTES + 1];
        private final int[] start = new int[MOST_BYTES + 1];
        private final int[] name = new int[MOST_BYTES + 1];
        private final int[] value = new int[MOST_BYTES + 1];
        private int size = 0;
        private int[] bytes = null;
        private int length = 0;

        Tokens(Words words) {
            this.words = words;
        }

        void cut(int[] newBytes, int newLength) {
            bytes = newBytes;
            length = newBytes == null ? 0 : Math.max(0, Math.min(newLength, newBytes.length));
            size = 0;
            int at = 0;
            for (int i = 0; i < MOST_BYTES && at < length && size < MOST_BYTES; i++) {
                if (isBlank(byteAt(at))) {
                    at++;
                } else {
                    at = cutOne(at);
                }
            }
            kind[size] = END;
            start[size] = length;
            name[size] = NONE;
            size++;
        }

        /** One token more: where it stops. */
        private int cutOne(int at) {
            int first = byteAt(at);
            int stop = at + 1;
            name[size] = NONE;
            start[size] = at;
            if (isLetter(first)) {
                stop = lettersStop(at);
                kind[size] = LETTERS;
                name[size] = nameOf(at, stop);
                value[size] = wordOf(at, stop);
            } else if (isDigit(first)) {
                stop = digitsStop(at);
                kind[size] = NUMBER;
                value[size] = numberOf(at, stop);
            } else if ((first == '<' || first == '>') && byteAt(stop) == '=') {
                stop++;
                kind[size] = first == '<' ? AT_MOST : AT_LEAST;
            } else {
                kind[size] = isSign(first) ? first : NO_TOKEN;
            }
            size++;
            return stop;
        }

        private int byteAt(int i) {
            return bytes != null && i >= 0 && i < length ? bytes[i] : NONE;
        }

        private static boolean isBlank(int one) {
            return one == 32 || one == 10;
        }

        private static boolean isLetter(int one) {
            return one >= 'a' && one <= 'z' || one >= 'A' && one <= 'Z';
        }

        private static boolean isDigit(int one) {
            return one >= '0' && one <= '9';
        }

        private static boolean isSign(int one) {
            for (int i = 0; i < SIGNS.length(); i++) {
                if (SIGNS.charAt(i) == one) {
                    return true;
                }
            }
            return false;
        }

        private int lettersStop(int first) {
            int stop = first;
            for (int i = first; i < length && isLetter(byteAt(i)); i++) {
                stop = i + 1;
            }
            return stop;
        }

        private int digitsStop(int first) {
            int stop = first;
            for (int i = first; i < length && isDigit(byteAt(i)); i++) {
                stop = i + 1;
            }
            return stop;
        }

        private int numberOf(int first, int stop) {
            int number = 0;
            for (int i = first; i < stop; i++) {
                // too great a number stays just too great, however many digits come
                number = Math.min(MOST_NUMBER + 1, number * 10 + byteAt(i) - '0');
            }
            return number;
        }

        private int nameOf(int first, int stop) {
            for (int i = 0; i < NAMES; i++) {
                if (spells(first, stop, nameBy(i))) {
                    return i;
                }
            }
            return NONE;
        }

        private boolean spells(int first, int stop, String wanted) {
            if (stop - first != wanted.length()) {
                return false;
            }
            for (int i = 0; i < wanted.length(); i++) {
                if (byteAt(first + i) != wanted.charAt(i)) {
                    return false;
                }
            }
            return true;
        }

        private static String nameBy(int number) {
            switch (number) {
                case Formula.PLACE: return "place";
                case Formula.FROM: return "from";
                case Formula.INTO: return "into";
                case Formula.HAND: return "hand";
                case Formula.LAST: return "last";
                case Formula.FAR: return "far";
                case MAY: return "may";
                case WEIGHT: return "weight";
                case BOOK: return "book";
                case ROAD: return "road";
                case TO: return "to";
                case OR: return "or";
                case AND: return "and";
                case NOT: return "not";
                default: return "";
            }
        }

        /** The number of the word that the letters are, NONE if they aren't one of this size. */
        private int wordOf(int first, int stop) {
            if (stop - first != words.length) {
                return NONE;
            }
            int word = 0;
            for (int i = first; i < stop; i++) {
                int letter = byteAt(i) - 'a';
                if (letter < 0 || letter >= words.letters) {
                    return NONE;
                }
                word = word * words.letters + letter;
            }
            return word;
        }
    }

    /** Reads a tape into a text; what comes behind the first fault is not looked at. */
    private static final class Reader {
        private static final int CANT_STAND = 1;
        private static final int WRONG_VALUE = 2;
        private static final int TOO_DEEP = 3;
        private static final int SECOND_TIME = 4;
        private static final int TOO_MANY = 5;
        private static final int MOST_OPEN = 8;

        private final Tokens tokens;
        private Text target = new Text();
        private int at = 0;
        private int clauses = 0;
        private int wrong = 0;
        private int wrongAt = NONE;

        Reader(Words words) {
            tokens = new Tokens(words);
        }

        /** The fault (0 without); its place is wrongAt. */
        int read(int[] bytes, int length, Text newTarget) {
            wrong = 0;
            wrongAt = NONE;
            clauses = 0;
            at = 0;
            if (newTarget == null) {
                return wrong;
            }
            target = newTarget;
            target.clear();
            tokens.cut(bytes, length);
            for (int i = 0; i <= MOST_CLAUSES && wrong == 0 && kind() != Tokens.END; i++) {
                readClause();
            }
            return wrong;
        }

        private int kind() {
            return at >= 0 && at < tokens.size ? tokens.kind[at] : Tokens.END;
        }

        private boolean isName(int name) {
            return at >= 0 && at < tokens.size && tokens.name[at] == name;
        }

        private void fail(int fault) {
            if (wrong == 0 && at >= 0 && at < tokens.size) {
                wrong = fault;
                wrongAt = tokens.start[at];
            }
        }

        /** Goes past a token, if it is one that can stand here. */
        private void pass(boolean can) {
            if (!can) {
                fail(CANT_STAND);
            }
            if (wrong == 0) {
                at++;
            }
        }

        private void readClause() {
            boolean may = isName(Tokens.MAY);
            boolean weight = isName(Tokens.WEIGHT);
            boolean entry = isName(Tokens.BOOK);
            if (!may && !weight && !entry && !isName(Tokens.ROAD)) {
                fail(CANT_STAND);
            } else if (may && target.hasMay || weight && target.hasWeight) {
                fail(SECOND_TIME);
            } else if (clauses >= MOST_CLAUSES) {
                fail(TOO_MANY);
            } else {
                clauses++;
                at++;
                if (may) {
                    readMay();
                } else if (weight) {
                    readWeight();
                } else if (entry) {
                    readEntry();
                } else {
                    readRoad();
                }
                pass(kind() == ';');
            }
        }

        private void readWeight() {
            target.hasWeight = true;
            target.weightStart = target.codes;
            readSum(0);
            target.weightStop = target.codes;
        }

        private void readEntry() {
            int word = readWord();
            int prior = readNumber(1, MOST_PRIOR);
            if (wrong == 0) {
                target.addEntry(word, prior);
            }
        }

        private void readRoad() {
            int least = readNumber(0, MOST_HANDS);
            pass(isName(Tokens.TO));
            int most = readNumber(least, MOST_HANDS);
            if (wrong == 0) {
                target.addRoad(least, most);
            }
        }

        private int readWord() {
            int word = kind() == Tokens.LETTERS ? tokens.value[at] : NONE;
            if (kind() != Tokens.LETTERS) {
                fail(CANT_STAND);
            } else if (word == NONE) {
                fail(WRONG_VALUE);
            } else {
                at++;
            }
            return word;
        }

        private int readNumber(int least, int most) {
            int number = kind() == Tokens.NUMBER ? tokens.value[at] : NONE;
            if (kind() != Tokens.NUMBER) {
                fail(CANT_STAND);
            } else if (number < least || number > most) {
                fail(WRONG_VALUE);
            } else {
                at++;
            }
            return number;
        }

        private void readMay() {
            target.hasMay = true;
            target.mayStart = target.codes;
            readAsk(0);
            // an or is done only when all the ands on its right side are
            boolean waiting = false;
            for (int i = 0; i < MOST_BYTES && wrong == 0 && (isName(Tokens.OR) || isName(Tokens.AND)); i++) {
                boolean both = isName(Tokens.AND);
                if (!both && waiting) {
                    target.emit(Formula.OR);
                }
                waiting |= !both;
                at++;
                readAsk(0);
                if (both) {
                    target.emit(Formula.AND);
                }
            }
            if (waiting) {
                target.emit(Formula.OR);
            }
            target.mayStop = target.codes;
        }

        private void readAsk(int open) {
            if (isName(Tokens.NOT)) {
                if (opensOneMore(open)) {
                    readAsk(open + 1);
                    target.emit(Formula.NOT);
                }
                return;
            }
            readSum(open);
            int code = Formula.comparison(kind());
            pass(code != 0);
            readSum(open);
            target.emit(code);
        }

        /** Goes past a token that stays open over what comes, if it isn't one too many. */
        private boolean opensOneMore(int open) {
            if (open >= MOST_OPEN) {
                fail(TOO_DEEP);
                return false;
            }
            at++;
            return true;
        }

        private void readSum(int open) {
            readProduct(open);
            for (int i = 0; i < MOST_BYTES && wrong == 0 && (kind() == '+' || kind() == '-'); i++) {
                int code = kind() == '+' ? Formula.ADD : Formula.LESS;
                at++;
                readProduct(open);
                target.emit(code);
            }
        }

        private void readProduct(int open) {
            readOne(open);
            for (int i = 0; i < MOST_BYTES && wrong == 0 && (kind() == '*' || kind() == '/'); i++) {
                int code = kind() == '*' ? Formula.TIMES : Formula.CUT;
                at++;
                readOne(open);
                target.emit(code);
            }
        }

        private void readOne(int open) {
            if (wrong != 0) {
                return;
            }
            if (kind() == Tokens.NUMBER) {
                target.emit(readNumber(0, MOST_NUMBER));
            } else if (kind() == '(') {
                if (opensOneMore(open)) {
                    readSum(open + 1);
                    pass(kind() == ')');
                }
            } else if (kind() == '-') {
                if (opensOneMore(open)) {
                    readOne(open + 1);
                    target.emit(Formula.MINUS);
                }
            } else {
                readName();
            }
        }

        private void readName() {
            int name = at >= 0 && at < tokens.size ? tokens.name[at] : NONE;
            if (name >= 0 && name < Formula.NAMES) {
                target.emit(-1 - name);
                target.usesHand |= name == Formula.HAND;
                at++;
            } else {
                fail(CANT_STAND);
            }
        }
    }

    /** Works out codes on a stack: 0 and above numbers, below that names, then what is done. */
    private static final class Formula {
        private static final int NAMES = 6;
        private static final int PLACE = 0;
        private static final int FROM = 1;
        private static final int INTO = 2;
        private static final int HAND = 3;
        private static final int LAST = 4;
        private static final int FAR = 5;

        private static final int ADD = -11;
        private static final int LESS = -12;
        private static final int TIMES = -13;
        private static final int CUT = -14;
        private static final int BELOW = -15;
        private static final int AT_MOST = -16;
        private static final int ABOVE = -17;
        private static final int AT_LEAST = -18;
        private static final int LIKE = -19;
        private static final int UNLIKE = -20;
        private static final int AND = -21;
        private static final int OR = -22;
        private static final int MINUS = -23;
        private static final int NOT = -24;

        private static final long BOUND = 1000000;

        private final int[] named = new int[NAMES];
        private final int[] stack = new int[MOST_BYTES];
        private int height = 0;

        /** The code of a sign that compares, 0 for other tokens. */
        static int comparison(int kind) {
            switch (kind) {
                case '<': return BELOW;
                case Tokens.AT_MOST: return AT_MOST;
                case '>': return ABOVE;
                case Tokens.AT_LEAST: return AT_LEAST;
                case '=': return LIKE;
                case '#': return UNLIKE;
                default: return 0;
            }
        }

        int value(int[] code, int start, int stop) {
            height = 0;
            for (int i = Math.max(0, start); i < stop && i < code.length; i++) {
                step(code[i]);
            }
            return height > 0 ? stack[height - 1] : 0;
        }

        private void step(int code) {
            if (code >= 0) {
                push(code);
            } else if (code >= -NAMES) {
                push(named[-1 - code]);
            } else if (code == MINUS) {
                push(-pop());
            } else if (code == NOT) {
                push(1 - pop());
            } else {
                int right = pop();
                int left = pop();
                push((int) Math.max(-BOUND, Math.min(BOUND, joined(code, left, right))));
            }
        }

        private void push(int value) {
            if (height >= 0 && height < stack.length) {
                stack[height] = value;
                height++;
            }
        }

        private int pop() {
            if (height <= 0 || height > stack.length) {
                return 0;
            }
            height--;
            return stack[height];
        }

        private static long joined(int code, long left, long right) {
            switch (code) {
                case ADD: return left + right;
                case LESS: return left - right;
                case TIMES: return left * right;
                case CUT: return right == 0 ? 0 : left / right;
                case BELOW: return left < right ? 1 : 0;
                case AT_MOST: return left <= right ? 1 : 0;
                case ABOVE: return left > right ? 1 : 0;
                case AT_LEAST: return left >= right ? 1 : 0;
                case LIKE: return left == right ? 1 : 0;
                case UNLIKE: return left != right ? 1 : 0;
                case AND: return left & right;
                case OR: return left | right;
                default: return 0;
            }
        }
    }

    /** What each hand may do, and its weight; worked out hand by hand when it is first needed. */
    private static final class Vow {
        private static final int MOST_WEIGHT = 9;

        private final Words words;
        private final Formula formula = new Formula();
        private final int lasts;
        // by change: the lasts behind which it may be done, as bits, that of -1 the lowest
        private final int[] open;
        // by change and last: 0 if it may not be done
        private final int[] weight;
        private int ready = 0;
        private Text source = null;

        Vow(Words words) {
            this.words = words;
            lasts = words.length + 1;
            open = new int[MOST_HANDS * words.length * words.letters * words.letters];
            weight = new int[open.length * lasts];
        }

        void ruledBy(Text newSource) {
            source = newSource;
            ready = 0;
        }

        /** Has to be called ahead of all that asks what the first n hands may do. */
        void prepare(int n) {
            boolean alike = source == null || !source.usesHand;
            for (int hand = ready; hand < n && hand < MOST_HANDS; hand++) {
                if (alike && hand > 0) {
                    copyFirstHand(hand);
                } else {
                    prepareHand(hand);
                }
                ready = hand + 1;
            }
        }

        private void copyFirstHand(int hand) {
            int changes = words.length * words.letters * words.letters;
            System.arraycopy(open, 0, open, hand * changes, changes);
            System.arraycopy(weight, 0, weight, hand * changes * lasts, changes * lasts);
        }

        private void prepareHand(int hand) {
            formula.named[Formula.HAND] = hand;
            for (int place = 0; place < words.length; place++) {
                formula.named[Formula.PLACE] = place;
                for (int from = 0; from < words.letters; from++) {
                    formula.named[Formula.FROM] = from;
                    for (int into = 0; into < words.letters; into++) {
                        if (into != from) {
                            formula.named[Formula.INTO] = into;
                            workOut(changesOf(hand, place, from) + into, place);
                        }
                    }
                }
            }
        }

        private void workOut(int change, int place) {
            boolean free = source == null || !source.hasMay;
            boolean plain = source == null || !source.hasWeight;
            open[change] = 0;
            for (int behind = 0; behind < lasts; behind++) {
                formula.named[Formula.LAST] = behind - 1;
                formula.named[Formula.FAR] = behind == 0 ? 0 : Math.abs(place - (behind - 1));
                int sum = 0;
                if (free || formula.value(source.code, source.mayStart, source.mayStop) != 0) {
                    open[change] |= 1 << behind;
                    int told = plain ? 1 : formula.value(source.code, source.weightStart, source.weightStop);
                    sum = Math.max(1, Math.min(MOST_WEIGHT, told));
                }
                weight[change * lasts + behind] = sum;
            }
        }

        /** Where the changes of this letter at this place by this hand stand in the rows, by what it becomes. */
        int changesOf(int hand, int place, int from) {
            return ((hand * words.length + place) * words.letters + from) * words.letters;
        }

        /** A word behind n hands that draw what they do. */
        int carry(int seed, int word, int n) {
            int draws = seed * 19 + 1;
            int at = word;
            int behind = 0;
            for (int hand = 0; hand < n; hand++) {
                int choices = choice(hand, at, behind, NONE);
                if (choices <= 0) {
                    return at;
                }
                int deed = choice(hand, at, behind, draws % choices);
                draws = (draws * 211 + 53) % 30119;
                at = words.changed(at, deed / 10, deed % 10);
                behind = deed / 10 + 1;
            }
            return at;
        }

        /** The i-th change that a hand may do (10 times the place and the letter); i NONE: how many. */
        private int choice(int hand, int word, int behind, int i) {
            int found = 0;
            for (int place = 0; place < words.length; place++) {
                int from = words.letter(word, place);
                int first = changesOf(hand, place, from);
                for (int into = 0; into < words.letters; into++) {
                    if (into != from && (open[first + into] >> behind & 1) != 0) {
                        if (found == i) {
                            return 10 * place + into;
                        }
                        found++;
                    }
                }
            }
            return i == NONE ? found : 0;
        }
    }

    /** Which words can come of which: for each hand and word a row of bits by last (-1 the lowest). */
    private static final class Paths {
        private final Words words;
        private final Vow vow;
        private final int everyLast;
        private final int[][] bits;
        private final int[] comers;
        private final int[] rivals = new int[MOST_APART];

        Paths(Words words, Vow vow) {
            this.words = words;
            this.vow = vow;
            everyLast = (1 << (words.length + 1)) - 1;
            bits = new int[MOST_HANDS + 1][words.count];
            comers = new int[words.count];
        }

        /** Fills the rows with the lasts behind which a word still leads into another by the hands left, least to most in all. */
        void trace(int into, int least, int most) {
            for (int hand = Math.min(most, MOST_HANDS); hand >= 0; hand--) {
                for (int word = 0; word < words.count; word++) {
                    bits[hand][word] = hand >= most ? 0 : openBehind(hand, word);
                }
                if (hand >= least) {
                    bits[hand][into] = everyLast;
                }
            }
        }

        private int openBehind(int hand, int word) {
            int[] next = bits[hand + 1];
            int open = 0;
            for (int place = 0; place < words.length; place++) {
                int from = words.letter(word, place);
                int first = vow.changesOf(hand, place, from);
                int other = words.cleared(word, place);
                int bit = 1 << (place + 1);
                for (int into = 0; into < words.letters; into++) {
                    if (into != from && (next[other] & bit) != 0) {
                        open |= vow.open[first + into];
                    }
                    other += words.power[place];
                }
            }
            return open;
        }

        /** Whether the traced word can come of this one. */
        boolean leads(int from) {
            return (bits[0][from] & 1) != 0;
        }

        /** What a hand does in the first row of the traced ones, 10 times the place and the letter. */
        int firstDeed(int start, int i) {
            int word = start;
            int behind = 0;
            int deed = NONE;
            for (int hand = 0; hand <= i && hand < MOST_HANDS; hand++) {
                deed = deedOf(hand, word, behind);
                if (deed == NONE) {
                    return NONE;
                }
                word = words.changed(word, deed / 10, deed % 10);
                behind = deed / 10 + 1;
            }
            return deed;
        }

        private int deedOf(int hand, int word, int behind) {
            int[] next = bits[hand + 1];
            for (int place = 0; place < words.length; place++) {
                int from = words.letter(word, place);
                int first = vow.changesOf(hand, place, from);
                for (int into = 0; into < words.letters; into++) {
                    boolean may = into != from && (vow.open[first + into] >> behind & 1) != 0;
                    if (may && (next[words.changed(word, place, into)] >> (place + 1) & 1) != 0) {
                        return 10 * place + into;
                    }
                }
            }
            return NONE;
        }

        /** Fills the rows with the lasts with which words can come of one. */
        void spread(int from, int n) {
            Arrays.fill(bits[0], 0);
            bits[0][from] = 1;
            for (int hand = 0; hand < n && hand < MOST_HANDS; hand++) {
                Arrays.fill(bits[hand + 1], 0);
                for (int word = 0; word < words.count; word++) {
                    if (bits[hand][word] != 0) {
                        spreadWord(hand, word);
                    }
                }
            }
        }

        private void spreadWord(int hand, int word) {
            int behind = bits[hand][word];
            int[] next = bits[hand + 1];
            for (int place = 0; place < words.length; place++) {
                int from = words.letter(word, place);
                int first = vow.changesOf(hand, place, from);
                int other = words.cleared(word, place);
                for (int into = 0; into < words.letters; into++) {
                    if (into != from && (vow.open[first + into] & behind) != 0) {
                        next[other] |= 1 << (place + 1);
                    }
                    other += words.power[place];
                }
            }
        }

        boolean isReached(int word, int n) {
            return bits[n][word] != 0;
        }

        /** The greatest part of a book no two of which can be taken for one another. */
        int apartOf(Book book, int n) {
            Arrays.fill(comers, 0);
            int size = Math.min(book.size, MOST_APART);
            for (int i = 0; i < size; i++) {
                spread(book.word[i], n);
                for (int word = 0; word < words.count; word++) {
                    if (isReached(word, n)) {
                        comers[word] |= 1 << i;
                    }
                }
            }
            findRivals();
            return widest(rivals, size - 1, 0, (1 << size) - 1, 0);
        }

        private void findRivals() {
            Arrays.fill(rivals, 0);
            for (int word = 0; word < words.count; word++) {
                for (int i = 0; i < MOST_APART; i++) {
                    if ((comers[word] >> i & 1) != 0) {
                        rivals[i] |= comers[word];
                    }
                }
            }
        }

        /** The highest one is left out first: so parts come by rising number, and of like ones the lowest is met first. */
        private static int widest(int[] rivals, int top, int chosen, int free, int best) {
            if (Integer.bitCount(chosen) + Integer.bitCount(free) <= Integer.bitCount(best)) {
                return best;
            }
            if (top < 0 || top >= rivals.length) {
                return chosen;
            }
            int others = free & ~(1 << top);
            int found = widest(rivals, top - 1, chosen, others, best);
            if (others == free) {
                return found;
            }
            return widest(rivals, top - 1, chosen | 1 << top, others & ~rivals[top], found);
        }
    }

    /** How weighty all the rows into a word are, from each word and last on. */
    private static final class Counts {
        private final Words words;
        private final Vow vow;
        private final int lasts;
        private long[] sums;
        private long[] nextSums;

        Counts(Words words, Vow vow) {
            this.words = words;
            this.vow = vow;
            lasts = words.length + 1;
            sums = new long[words.count * lasts];
            nextSums = new long[words.count * lasts];
        }

        long waysOf(int from) {
            return sums[from * lasts];
        }

        void count(int into, int n) {
            Arrays.fill(sums, 0);
            for (int behind = 0; behind < lasts; behind++) {
                sums[into * lasts + behind] = 1;
            }
            for (int hand = Math.min(n, MOST_HANDS) - 1; hand >= 0; hand--) {
                long[] known = sums;
                sums = nextSums;
                nextSums = known;
                Arrays.fill(sums, 0);
                for (int word = 0; word < words.count; word++) {
                    countWord(hand, word);
                }
            }
        }

        private void countWord(int hand, int word) {
            for (int place = 0; place < words.length; place++) {
                int from = words.letter(word, place);
                int first = vow.changesOf(hand, place, from);
                int other = words.cleared(word, place) * lasts + place + 1;
                for (int into = 0; into < words.letters; into++) {
                    if (into != from && nextSums[other] != 0) {
                        addChange(hand, word, first + into, nextSums[other]);
                    }
                    other += words.power[place] * lasts;
                }
            }
        }

        private void addChange(int hand, int word, int change, long rest) {
            // hand 0 has none ahead, and every other one has
            int least = hand == 0 ? 0 : 1;
            int most = hand == 0 ? 0 : words.length;
            for (int behind = least; behind <= most; behind++) {
                sums[word * lasts + behind] += vow.weight[change * lasts + behind] * rest;
            }
        }
    }

    /** The fewest hands that broke the vow, as one number: how many of them above, their bits below. */
    private static final class Breakers {
        private static final int NEVER = 1 << 20;

        private final Words words;
        private final Vow vow;
        private final int lasts;
        private int[] costs;
        private int[] nextCosts;

        Breakers(Words words, Vow vow) {
            this.words = words;
            this.vow = vow;
            lasts = words.length + 1;
            costs = new int[words.count * lasts];
            nextCosts = new int[words.count * lasts];
        }

        int least(Log log, int time) {
            Arrays.fill(costs, NEVER);
            for (int word = 0; word < words.count; word++) {
                costs[word * lasts] = 0;
            }
            keepOnly(log.known(0, time));
            for (int hand = 0; hand < log.hands && hand < MOST_HANDS; hand++) {
                passHand(hand);
                keepOnly(log.known(hand + 1, time));
            }
            return leastCost();
        }

        private int leastCost() {
            int least = NEVER;
            for (int i = 0; i < costs.length; i++) {
                least = Math.min(least, costs[i]);
            }
            return least;
        }

        private void keepOnly(int known) {
            if (known == NONE) {
                return;
            }
            int first = known * lasts;
            for (int i = 0; i < costs.length; i++) {
                if (i < first || i >= first + lasts) {
                    costs[i] = NEVER;
                }
            }
        }

        /** A later hand's bit is higher than all bits ahead of it, so the least so far stays part of the least in all. */
        private void passHand(int hand) {
            int broken = leastCost() + (1 << MOST_HANDS) + (1 << hand);
            int[] known = costs;
            costs = nextCosts;
            nextCosts = known;
            Arrays.fill(costs, NEVER);
            for (int word = 0; word < words.count; word++) {
                costs[word * lasts] = broken;
            }
            for (int word = 0; word < words.count; word++) {
                passWord(hand, word);
            }
        }

        private void passWord(int hand, int word) {
            int best = bestBehind(word);
            int bestCost = nextCosts[word * lasts + best];
            if (bestCost >= NEVER) {
                return;
            }
            for (int place = 0; place < words.length; place++) {
                int from = words.letter(word, place);
                int first = vow.changesOf(hand, place, from);
                int other = words.cleared(word, place) * lasts + place + 1;
                for (int into = 0; into < words.letters; into++) {
                    if (into != from) {
                        int open = vow.open[first + into];
                        // most often the cheapest last will do, and the others needn't be looked through
                        int cost = (open >> best & 1) != 0 ? bestCost : leastBehind(word, open);
                        costs[other] = Math.min(costs[other], cost);
                    }
                    other += words.power[place] * lasts;
                }
            }
        }

        private int bestBehind(int word) {
            int best = 0;
            for (int behind = 1; behind < lasts; behind++) {
                if (nextCosts[word * lasts + behind] < nextCosts[word * lasts + best]) {
                    best = behind;
                }
            }
            return best;
        }

        private int leastBehind(int word, int open) {
            int least = NEVER;
            for (int behind = 0; behind < lasts; behind++) {
                if ((open >> behind & 1) != 0) {
                    least = Math.min(least, nextCosts[word * lasts + behind]);
                }
            }
            return least;
        }
    }
}
