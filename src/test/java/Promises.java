/** Each promise of the document by itself: ordinary inputs, the edges it names, wrong inputs; answers worked out by hand. */
public final class Promises {
    private static int wrong = 0;

    private Promises() {
    }

    private static void due(int promise, String what, long got, long want) {
        if (got != want) {
            wrong++;
            System.out.println("promise " + promise + ": " + what + " answered " + got + ", due is " + want);
        }
    }

    private static void due(int promise, String what, boolean got, boolean want) {
        due(promise, what, got ? 1 : 0, want ? 1 : 0);
    }

    public static void main(String[] args) {
        newObject();
        putAndTake();
        feedAndEnd();
        textAndFault();
        faultsOfTokens();
        faultsOfValues();
        faultsOfDepth();
        faultsOfClauses();
        by();
        filled();
        book();
        bars();
        ways();
        formulas();
        row();
        heard();
        odds();
        road();
        fits();
        treeAndShares();
        near();
        apart();
        logAndSaid();
        broke();
        message();
        imageAndBack();
        about();
        if (wrong > 0) {
            System.exit(1);
        }
        System.out.println("all promises are kept");
    }

    private static void newObject() {
        int[][] sizes = {
            {2, 3, 2, 3, 8}, {2, 8, 2, 8, 256}, {2, 9, 2, 8, 256}, {3, 5, 3, 5, 243}, {3, 6, 3, 5, 243},
            {4, 4, 4, 4, 256}, {4, 5, 4, 4, 256}, {5, 3, 5, 3, 125}, {5, 4, 5, 3, 125}, {5, 2, 5, 2, 25},
            {1, 1, 2, 2, 4}, {6, 99, 5, 3, 125}, {Integer.MIN_VALUE, Integer.MAX_VALUE, 2, 8, 256},
            {Integer.MAX_VALUE, Integer.MIN_VALUE, 5, 2, 25}, {0, 0, 2, 2, 4}, {3, -5, 3, 2, 9},
        };
        for (int[] s : sizes) {
            OneLetterWrong x = new OneLetterWrong(s[0], s[1]);
            String name = "new (" + s[0] + ", " + s[1] + ")";
            due(1, name + " A", x.about(0), s[2]);
            due(1, name + " L", x.about(1), s[3]);
            due(1, name + " N", x.about(2), s[4]);
        }
        OneLetterWrong x = new OneLetterWrong(2, 3);
        x.put(1, 1);
        x.log(4);
        x.said(0, 1, 1);
        Tape.read(x, "");
        x.by(0);
        due(1, "back to the image of a new one", x.back(), 0);
        due(1, "its texts", x.about(3), 0);
        due(1, "its text", x.about(4), -1);
        due(1, "its log's hands", x.about(6), 0);
        due(1, "what was told", x.about(7), 0);
        due(1, "NONE", OneLetterWrong.NONE, -1);
    }

    private static void putAndTake() {
        OneLetterWrong x = new OneLetterWrong(2, 6);
        due(2, "a word below", x.put(-1, 1), -1);
        due(2, "a word above", x.put(64, 1), -1);
        due(2, "prior 0", x.put(0, 0), -1);
        due(2, "prior 10", x.put(0, 10), -1);
        for (int w = 0; w < 40; w++) {
            due(2, "put " + w, x.put(63 - w, 1 + w % 9), w + 1);
        }
        due(2, "the 41st", x.put(0, 1), -1);
        due(2, "one that is there", x.put(63, 2), -1);
        due(2, "its prior stays", x.about(10), 1);
        due(3, "take the second", x.take(62), 39);
        due(3, "take it again", x.take(62), -1);
        due(3, "those behind it come up", x.book(1), 61);
        due(3, "with their priors", x.about(11), 3);
        due(3, "not there", x.take(0), -1);
        due(3, "no word", x.take(-1), -1);
        due(3, "no word above", x.take(64), -1);
        due(3, "far above", x.take(Integer.MAX_VALUE), -1);
        due(2, "put it back, as the last", x.put(62, 7), 40);
        due(2, "where it is", x.book(39), 62);
        due(2, "its prior", x.about(49), 7);
    }

    private static void feedAndEnd() {
        OneLetterWrong x = new OneLetterWrong(2, 2);
        due(4, "twenty bytes", x.feed(0x726f6164, 0x20312074, 0x6f20323b, 0x0a202020, 0x20202020), 20);
        due(4, "they are a text, the highest byte first", x.text(), 0);
        x.by(0);
        due(4, "its road", x.about(9), 1);
        for (int i = 1; i <= 15; i++) {
            due(4, "feed " + i, x.feed(-1, -1, -1, -1, -1), 20 * i);
        }
        due(4, "above 300", x.feed(1, 1, 1, 1, 1), -1);
        due(4, "none come", x.about(8), 300);
        due(5, "300 of 300", x.end(300), 300);
        due(5, "301", x.end(301), -1);
        due(5, "below 0", x.end(-1), -1);
        due(5, "nothing is done", x.about(8), 300);
        due(5, "281", x.end(281), 281);
        due(4, "301 would be", x.feed(1, 1, 1, 1, 1), -1);
        due(5, "280", x.end(280), 280);
        due(4, "300 may be", x.feed(1, 1, 1, 1, 1), 300);
        due(5, "none", x.end(0), 0);
        due(5, "not so many", x.end(1), -1);
        due(5, "none of none", x.end(0), 0);
    }

    private static void textAndFault() {
        OneLetterWrong x = new OneLetterWrong(2, 2);
        due(7, "ahead of any", x.fault(0), -1);
        due(7, "its place ahead of any", x.fault(1), -1);
        due(6, "a text without a byte", x.text(), 0);
        due(7, "without fault", x.fault(0), 0);
        due(7, "no place", x.fault(1), -1);
        due(7, "others below", x.fault(-1), -1);
        due(7, "others above", x.fault(2), -1);
        due(6, "a fault", Tape.read(x, "may ;"), -1);
        due(6, "the tape is empty then", x.about(8), 0);
        due(6, "it is no text", x.about(3), 1);
        due(7, "its fault", x.fault(0), 1);
        due(7, "its place", x.fault(1), 4);
        due(6, "the second", Tape.read(x, " \n"), 1);
        due(7, "the latest one has none", x.fault(0), 0);
        due(6, "the third", Tape.read(x, "road 0 to 8;"), 2);
        due(6, "the tape is empty", x.about(8), 0);
        due(6, "the fourth", Tape.read(x, "book ab 9;"), 3);
        due(6, "there are four", Tape.read(x, "x"), -1);
        due(6, "the tape stays", x.about(8), 1);
        due(6, "four texts", x.about(3), 4);
        due(7, "it was not read", x.fault(0), 0);
        x.back();
        due(7, "a fault is no part of the image", x.fault(0), 0);
        due(6, "the tape neither: it is read now", x.text(), -1);
        due(7, "and has a fault", x.fault(0), 1);
    }

    /** What a text's fault is and where, on a new object of this size. */
    private static void fault(int a, int l, String source, int kind, int place) {
        OneLetterWrong x = new OneLetterWrong(a, l);
        due(6, "text <" + source + ">", Tape.read(x, source), kind == 0 ? 0 : -1);
        due(7, "fault of <" + source + ">", x.fault(0), kind);
        due(7, "place of the fault of <" + source + ">", x.fault(1), kind == 0 ? -1 : place);
    }

    private static void faultsOfTokens() {
        fault(3, 2, "may place<1;", 0, 0);
        fault(3, 2, "may\nplace < = 1;", 1, 12);
        fault(3, 2, "may place <= 1;", 0, 0);
        fault(3, 2, "may place >= 1;", 0, 0);
        fault(3, 2, "may place => 1;", 1, 11);
        fault(3, 2, "may place == 1;", 1, 11);
        fault(3, 2, "may place < 1 < 2;", 1, 14);
        fault(3, 2, "may (place < 1);", 1, 11);
        fault(3, 2, "may place < 1", 1, 13);
        fault(3, 2, "may place < 1 ", 1, 14);
        fault(3, 2, "may place\t< 1;", 1, 9);
        fault(3, 2, "may place < 1;" + (char) 0, 1, 14);
        fault(3, 2, "may place < 1;" + (char) 200, 1, 14);
        fault(3, 2, "may place < 1; ;", 1, 15);
        fault(3, 2, ";".repeat(300), 1, 0);
        fault(3, 2, "weight " + "1+".repeat(145) + "1;", 0, 0);
        fault(3, 2, "weight " + "1+".repeat(145) + "1; ", 0, 0);
        fault(3, 2, "weight " + "1+".repeat(146) + "1", 1, 300);
        fault(3, 2, " ".repeat(300), 0, 0);
        fault(3, 2, "\n".repeat(299) + "@", 1, 299);
        fault(3, 2, "may 1<1[;", 1, 7);
        fault(3, 2, "may 1<1`;", 1, 7);
        fault(3, 2, "may 1<1{;", 1, 7);
        fault(3, 2, "may 1<1:;", 1, 7);
        fault(3, 2, "MAY place < 1;", 1, 0);
        fault(3, 2, "mayplace < 1;", 1, 0);
        fault(3, 2, "may Place < 1;", 1, 4);
        fault(3, 2, "may1<1;", 0, 0);
        fault(3, 2, "may 1<1or 2#3and 4=5;", 0, 0);
        fault(3, 2, "may 1<1 or or 2#3;", 1, 11);
        fault(3, 2, "may 1<1 or not 2#3;", 0, 0);
        fault(3, 2, "may 1<not 2;", 1, 6);
        fault(3, 2, "weight not 2;", 1, 7);
        fault(3, 2, "weight 2<3;", 1, 8);
        fault(3, 2, "weight (2;", 1, 9);
        fault(3, 2, "weight 2);", 1, 8);
        fault(3, 2, "weight 2 3;", 1, 9);
        fault(3, 2, "weight 2 place;", 1, 9);
        fault(3, 2, "weight to;", 1, 7);
        fault(3, 2, "weight ;", 1, 7);
        fault(3, 2, "weight +1;", 1, 7);
        fault(3, 2, "weight 1--1;", 0, 0);
        fault(3, 2, "weight 1*-1/-(2);", 0, 0);
        fault(3, 2, "weight 1-*1;", 1, 9);
        fault(3, 2, "book", 1, 4);
        fault(3, 2, "book ab", 1, 7);
        fault(3, 2, "book ab 1", 1, 9);
        fault(3, 2, "book ab1;", 0, 0);
        fault(3, 2, "book ab cd;", 1, 8);
        fault(3, 2, "road 1 to 2;road", 1, 16);
        fault(3, 2, "road 1 2;", 1, 7);
        fault(3, 2, "road a to 2;", 1, 5);
        fault(3, 2, "road 1to2;", 0, 0);
        fault(3, 2, "road 1 to (2);", 1, 10);
    }

    private static void faultsOfValues() {
        fault(3, 2, "weight 9999;", 0, 0);
        fault(3, 2, "weight 10000;", 2, 7);
        fault(3, 2, "weight 00000000009999;", 0, 0);
        fault(3, 2, "weight 99999999999999999999999999;", 2, 7);
        fault(3, 2, "weight 4294967297;", 2, 7);
        fault(3, 2, "weight 1 10000;", 1, 9);
        fault(3, 2, "book ab 0;", 2, 8);
        fault(3, 2, "book ab 10;", 2, 8);
        fault(3, 2, "book ab 009;", 0, 0);
        fault(3, 2, "book ab 10000;", 2, 8);
        fault(3, 2, "book ad 1;", 2, 5);
        fault(3, 2, "book aB 1;", 2, 5);
        fault(3, 2, "book zz 1;", 2, 5);
        fault(3, 2, "book AZ 1;", 2, 5);
        fault(3, 2, "book a[ 1;", 2, 5);
        fault(3, 2, "book a 1;", 2, 5);
        fault(3, 2, "book aaa 1;", 2, 5);
        fault(3, 2, "book 10000 1;", 1, 5);
        fault(3, 2, "book or 1;", 2, 5);
        fault(5, 3, "book bad 1;", 0, 0);
        fault(5, 3, "book may 1;", 2, 5);
        fault(3, 2, "road 8 to 8;", 0, 0);
        fault(3, 2, "road 0 to 9;", 2, 10);
        fault(3, 2, "road 9 to 9;", 2, 5);
        fault(3, 2, "road 3 to 2;", 2, 10);
        fault(3, 2, "road 3 to 3;", 0, 0);
        fault(3, 2, "road 10000 to 3;", 2, 5);
    }

    private static void faultsOfDepth() {
        fault(3, 2, "weight ((((((((1))))))));", 0, 0);
        fault(3, 2, "weight (((((((((1)))))))));", 3, 15);
        fault(3, 2, "weight --------1;", 0, 0);
        fault(3, 2, "weight ---------1;", 3, 15);
        fault(3, 2, "weight ((((((((1-1))))))));", 0, 0);
        fault(3, 2, "weight ((((((((-1))))))));", 3, 15);
        fault(3, 2, "weight ((((((((1)))))))) + ((((((((1))))))));", 0, 0);
        fault(3, 2, "weight -------(1-1)--------1;", 0, 0);
        fault(3, 2, "weight -------(1-(1));", 3, 17);
        fault(3, 2, "may not not not not not not not not 1=1;", 0, 0);
        fault(3, 2, "may not not not not not not not not not 1=1;", 3, 36);
        fault(3, 2, "may not not not not ((((1)))) = 1;", 0, 0);
        fault(3, 2, "may not not not not ((((-1)))) = 1;", 3, 24);
        fault(3, 2, "may not not not not 1 = ((((-1))));", 3, 28);
        fault(3, 2, "may not not not not not not not not 1=1 and not 1=1 or not 1=1;", 0, 0);
        fault(3, 2, "may not not not not not not not not 1=1 and (((((((((1", 3, 52);
        fault(3, 2, "weight ((((((((not", 1, 15);
        fault(3, 2, "weight 1(((((((((1", 1, 8);
    }

    private static void faultsOfClauses() {
        fault(3, 2, "may 1=1;weight 1;may 1=1;", 4, 17);
        fault(3, 2, "weight 1;may 1=1; weight 1;", 4, 18);
        String many = "road 0 to 0;".repeat(24);
        fault(3, 2, many, 0, 0);
        fault(3, 2, many + "\n ", 0, 0);
        fault(3, 2, many + "road", 5, 288);
        fault(3, 2, many + " may", 5, 289);
        fault(3, 2, many + " to", 1, 289);
        fault(3, 2, "may 1=1;" + "road 0 to 0;".repeat(23) + "may", 4, 284);
        fault(3, 2, "may 1=1;" + "road 0 to 0;".repeat(23) + "weight", 5, 284);
    }

    private static void by() {
        OneLetterWrong x = new OneLetterWrong(2, 3);
        due(8, "none there", x.by(0), false);
        due(8, "none", x.by(-1), true);
        Tape.read(x, "may place=0;");
        Tape.read(x, "may place=1; road 1 to 1;");
        due(8, "a text rules only when told", x.heard(0, 1, -1), 3);
        due(8, "the first", x.by(0), true);
        due(8, "its vow", x.heard(0, 1, 0), 4);
        due(8, "below", x.by(-2), false);
        due(8, "above", x.by(2), false);
        due(8, "nothing is done", x.about(4), 0);
        due(8, "the second", x.by(1), true);
        due(8, "its vow", x.heard(0, 1, 0), 2);
        due(8, "its roads", x.about(9), 1);
        due(8, "none again", x.by(-1), true);
        due(8, "all may be", x.heard(0, 1, -1), 3);
        due(8, "no roads", x.about(9), 0);
    }

    private static void filled() {
        OneLetterWrong x = new OneLetterWrong(2, 3);
        due(9, "none there", x.filled(0), -1);
        Tape.read(x, "book aba 4; road 1 to 1; book bbb 2; book aba 9; book aaa 1;");
        Tape.read(x, "");
        due(9, "no text", x.filled(2), -1);
        due(9, "below", x.filled(-1), -1);
        x.put(7, 5);
        due(9, "bbb is there, aba comes once", x.filled(0), 2);
        due(9, "the order", x.book(1), 2);
        due(9, "the first of two stays", x.about(11), 4);
        due(9, "the last", x.book(2), 0);
        due(9, "again", x.filled(0), 0);
        due(9, "without book clauses", x.filled(1), 0);
        OneLetterWrong y = new OneLetterWrong(2, 6);
        for (int w = 0; w < 39; w++) {
            y.put(w, 1);
        }
        Tape.read(y, "book bbbbbb 1; book bbbbba 1;");
        due(9, "there is room for one", y.filled(0), 1);
        due(9, "it is the first", y.book(39), 63);
    }

    private static void book() {
        OneLetterWrong x = new OneLetterWrong(3, 2);
        due(10, "how many of none", x.book(-1), 0);
        due(10, "none such", x.book(0), -1);
        x.put(8, 1);
        x.put(0, 1);
        due(10, "how many", x.book(-1), 2);
        due(10, "the order is that of putting in", x.book(0), 8);
        due(10, "the second", x.book(1), 0);
        due(10, "none such", x.book(2), -1);
        due(10, "below", x.book(-2), -1);
        due(10, "far below", x.book(Integer.MIN_VALUE), -1);
    }

    private static void bars() {
        OneLetterWrong two = new OneLetterWrong(2, 3);
        OneLetterWrong three = new OneLetterWrong(3, 2);
        due(11, "of two letters back in two", two.bars(5, 5, 2), 0);
        due(11, "not in three", two.bars(5, 5, 3), 1);
        due(11, "of three letters in three", three.bars(4, 4, 3), 0);
        due(11, "not in one", three.bars(4, 4, 1), 1);
        due(11, "in none", three.bars(4, 4, 0), 0);
        due(11, "another one in none", three.bars(4, 3, 0), 1);
        due(11, "two places need two", three.bars(0, 4, 1), 1);
        due(11, "and can take three", three.bars(0, 4, 3), 0);
        due(11, "no word", three.bars(9, 0, 1), -1);
        due(11, "no word below", three.bars(0, -1, 1), -1);
        due(11, "nine hands", three.bars(0, 0, 9), -1);
        due(11, "hands below", three.bars(0, 0, -1), -1);
        Tape.read(two, "may place = hand;");
        two.by(0);
        due(11, "each hand has its place", two.bars(0, 7, 3), 0);
        due(11, "not the last place at first", two.bars(0, 1, 1), 2);
        due(11, "the vow isn't why", two.bars(0, 3, 1), 1);
        due(11, "no fourth hand", two.bars(0, 0, 4), 2);
        due(11, "none does nothing", two.bars(6, 6, 0), 0);
    }

    private static void ways() {
        OneLetterWrong x = new OneLetterWrong(2, 8);
        due(12, "eight places by eight hands: 8!", x.ways(0, 255, 8), 40320);
        due(12, "by none", x.ways(3, 3, 0), 1);
        due(12, "another one by none", x.ways(3, 4, 0), 0);
        due(12, "it can't be", x.ways(0, 1, 2), 0);
        due(12, "no word", x.ways(-1, 0, 1), -1);
        due(12, "no word above", x.ways(0, 256, 1), -1);
        due(12, "nine hands", x.ways(0, 0, 9), -1);
        due(12, "hands below", x.ways(0, 0, -1), -1);
        Tape.read(x, "weight 9;");
        x.by(0);
        due(12, "each of them weighs 9", x.ways(0, 255, 8), 40320L * 43046721L);
        OneLetterWrong y = new OneLetterWrong(5, 3);
        Tape.read(y, "weight 10000 - 1;");
        due(12, "a fault rules nothing", y.ways(0, 5, 1), 1);
        Tape.read(y, "weight 9999;");
        Tape.read(y, "weight -9999;");
        Tape.read(y, "weight place + into;");
        y.by(0);
        due(12, "9 at most", y.ways(0, 1, 1), 9);
        // (12^8 + 12 * 7^8 + 48 * 2^8 + 64 * 3^8) / 125 rows lead back: the values of the words' graph; each weighs 9^8
        due(12, "very many", y.ways(0, 0, 8), 3996732L * 43046721L);
        y.by(1);
        due(12, "1 at least", y.ways(0, 1, 1), 1);
        y.by(2);
        due(12, "by place and letter", y.ways(0, 4, 1), 6);
        due(12, "1 at least here too", y.ways(25, 0, 1), 1);
        due(12, "two ways: first one place, then the other", y.ways(0, 9, 2), 2 * (2 * 6));
    }

    /** The weight of a change by the first hand of a word of two letters of five, the formula being a sum. */
    private static void formula(String sum, int want) {
        OneLetterWrong x = new OneLetterWrong(5, 2);
        due(12, "reading of " + sum, Tape.read(x, "weight " + sum + ";"), 0);
        x.by(0);
        due(12, "weight " + sum, x.ways(5 * 4 + 3, 5 * 4 + 1, 1), want);
    }

    /** Whether a hand may do a change of the same kind. */
    private static void ask(String ask, boolean want) {
        OneLetterWrong x = new OneLetterWrong(5, 2);
        due(11, "reading of " + ask, Tape.read(x, "may " + ask + ";"), 0);
        x.by(0);
        due(11, "may " + ask, x.bars(5 * 4 + 3, 5 * 4 + 1, 1), want ? 0 : 2);
    }

    private static void formulas() {
        formula("place", 1);
        formula("place + 1", 2);
        formula("from", 3);
        formula("into + 1", 2);
        formula("hand + 2", 2);
        formula("last + 4", 3);
        formula("far + 2", 2);
        formula("9 - 4 - 3", 2);
        formula("9 / 2 * 2", 8);
        formula("2 + 3 * 2", 8);
        formula("(2 + 1) * 2", 6);
        formula("-7 / 2 + 9", 6);
        formula("7 / -2 + 9", 6);
        formula("5 / 0 + 4", 4);
        formula("9999 * 9999 - 9999 * 99 - 9999 - 98", 2);
        formula("9999 * 9999 / 9999 - 98", 2);
        formula("9999 * 101 - 9999 * 100 - 103 + 5", 2);
        formula("-9999 * 9999 + 9999 * 100 + 107", 7);
        formula("(0 - 9999 * 9999) / 9999 * -1 - 97", 3);
        formula("9999 * 100 + 9999 - 9999 * 100 - 95", 5);
        formula("- - 4", 4);
        formula("6 - -2", 8);
        formula("-2 * -3", 6);
        ask("1 < 2", true);
        ask("2 < 2", false);
        ask("2 <= 2", true);
        ask("3 <= 2", false);
        ask("3 > 2", true);
        ask("2 > 2", false);
        ask("2 >= 2", true);
        ask("1 >= 2", false);
        ask("2 = 2", true);
        ask("2 = 1", false);
        ask("2 # 1", true);
        ask("2 # 2", false);
        ask("not 2 # 2", true);
        ask("not not 2 # 2", false);
        ask("1=2 and 1=2 or 1=1", true);
        ask("1=1 or 1=2 and 1=2", true);
        ask("not 1=1 or 1=1", true);
        ask("not 1=2 and 1=2", false);
        ask("-1 < 0", true);
        ask("last = -1 and far = 0", true);
        ask("place = 1 and from = 3 and into = 1 and hand = 0", true);
        ask("1 + 1 = 2 * 1", true);
    }

    private static void row() {
        OneLetterWrong x = new OneLetterWrong(3, 3);
        due(13, "the least place first", x.row(0, 13, 3, 0), 1);
        due(13, "then the next", x.row(0, 13, 3, 1), 11);
        due(13, "then the last", x.row(0, 13, 3, 2), 21);
        due(13, "one hand more than places", x.row(0, 12, 3, 0), 1);
        due(13, "a letter on the way", x.row(0, 12, 3, 1), 12);
        due(13, "and the right one", x.row(0, 12, 3, 2), 11);
        due(13, "it can't come", x.row(0, 13, 1, 0), -1);
        due(13, "none such", x.row(0, 1, 1, 1), -1);
        due(13, "below", x.row(0, 1, 1, -1), -1);
        due(13, "of none", x.row(0, 0, 0, 0), -1);
        due(13, "the last letter", x.row(0, 2, 1, 0), 22);
        due(13, "no word", x.row(27, 0, 1, 0), -1);
        due(13, "no word below", x.row(0, -1, 1, 0), -1);
        due(13, "nine hands", x.row(0, 0, 9, 0), -1);
        Tape.read(x, "may last = -1 or far = 1;");
        x.by(0);
        due(13, "from one place", x.row(0, 4, 2, 0), 11);
        due(13, "to its neighbour", x.row(0, 4, 2, 1), 21);
        due(13, "not past the one between", x.row(0, 10, 2, 0), -1);
    }

    private static void heard() {
        OneLetterWrong x = new OneLetterWrong(2, 3);
        due(14, "by none", x.heard(5, 0, -1), 1);
        due(14, "itself", x.heard(5, 0, 0), 5);
        due(14, "by two", x.heard(5, 2, -1), 4);
        due(14, "the least", x.heard(5, 2, 0), 0);
        due(14, "the greatest", x.heard(5, 2, 3), 6);
        due(14, "none such", x.heard(5, 2, 4), -1);
        due(14, "below", x.heard(5, 2, -2), -1);
        due(14, "no word", x.heard(8, 2, -1), -1);
        due(14, "nine", x.heard(5, 9, -1), -1);
        due(14, "below none", x.heard(5, -1, -1), -1);
        Tape.read(x, "may from < into and place # last;");
        x.by(0);
        due(14, "letters only rise", x.heard(0, 3, -1), 1);
        due(14, "all of them", x.heard(0, 3, 0), 7);
        due(14, "then no more", x.heard(0, 4, -1), 0);
        due(14, "none such of none", x.heard(0, 4, 0), -1);
    }

    private static void odds() {
        OneLetterWrong x = new OneLetterWrong(2, 3);
        due(15, "without a book", x.odds(0, 0, 0, 0), -1);
        x.put(1, 2);
        x.put(2, 4);
        x.put(7, 9);
        due(15, "upper of 2 by 6", x.odds(0, 1, 0, 0), 1);
        due(15, "lower of 2 by 6", x.odds(0, 1, 0, 1), 3);
        due(15, "upper of 4 by 6", x.odds(0, 1, 1, 0), 2);
        due(15, "lower of 4 by 6", x.odds(0, 1, 1, 1), 3);
        due(15, "0", x.odds(0, 1, 2, 0), 0);
        due(15, "by 1", x.odds(0, 1, 2, 1), 1);
        due(15, "7 by three: 9 * 6 of 9 * 6 + 7 * (2 + 4)", x.odds(0, 3, 2, 0), 9);
        due(15, "of 16", x.odds(0, 3, 2, 1), 16);
        due(15, "it comes of none", x.odds(0, 0, 0, 0), -1);
        due(15, "no such word of the book", x.odds(0, 1, 3, 0), -1);
        due(15, "below", x.odds(0, 1, -1, 0), -1);
        due(15, "what above", x.odds(0, 1, 0, 2), -1);
        due(15, "what below", x.odds(0, 1, 0, -1), -1);
        due(15, "no word", x.odds(8, 1, 0, 0), -1);
        due(15, "nine", x.odds(0, 9, 0, 0), -1);
        Tape.read(x, "weight place * 2;");
        x.by(0);
        due(15, "by weights: 2 * 4 of 2 * 4 + 4 * 2", x.odds(0, 1, 0, 1), 2);
    }

    private static void road() {
        OneLetterWrong x = new OneLetterWrong(2, 3);
        Tape.read(x, "road 0 to 1; road 2 to 3; book aaa 1; road 8 to 8;");
        due(16, "without the text", x.road(0, 0, 0), false);
        x.by(0);
        due(16, "by none of 0 to 1", x.road(0, 0, 0), true);
        due(16, "by one", x.road(0, 1, 0), true);
        due(16, "two places", x.road(0, 3, 0), false);
        due(16, "by two", x.road(0, 3, 1), true);
        due(16, "by three", x.road(0, 7, 1), true);
        due(16, "by eight", x.road(0, 3, 2), true);
        due(16, "an even number", x.road(0, 7, 2), false);
        due(16, "none such", x.road(0, 0, 3), false);
        due(16, "below", x.road(0, 0, -1), false);
        due(16, "no word", x.road(8, 0, 0), false);
        due(16, "no word below", x.road(0, -1, 0), false);
        Tape.read(x, "may place = hand; road 1 to 3;");
        x.by(1);
        due(16, "the first hand is hand 0 by any number", x.road(0, 6, 0), true);
        due(16, "so the last letter alone can't be changed", x.road(0, 1, 0), false);
    }

    private static void fits() {
        OneLetterWrong x = new OneLetterWrong(2, 3);
        x.put(3, 1);
        x.put(0, 1);
        x.put(6, 1);
        due(17, "without a text", x.fits(0, 0, 0, 0, -1), -1);
        Tape.read(x, "road 0 to 1; road 2 to 2;");
        x.by(0);
        due(17, "near 1 and two from 0", x.fits(1, 0, 0, 1, -1), 2);
        due(17, "in the book's order", x.fits(1, 0, 0, 1, 0), 3);
        due(17, "two back is two", x.fits(1, 0, 0, 1, 1), 0);
        due(17, "none such", x.fits(1, 0, 0, 1, 2), -1);
        due(17, "below", x.fits(1, 0, 0, 1, -2), -1);
        due(17, "none at all", x.fits(1, 0, 7, 0, -1), 1);
        due(17, "3 is between", x.fits(1, 0, 7, 0, 0), 3);
        due(17, "no road", x.fits(1, 2, 0, 1, -1), -1);
        due(17, "no way", x.fits(1, 0, 0, 2, -1), -1);
        due(17, "no word", x.fits(8, 0, 0, 1, -1), -1);
        due(17, "no other word", x.fits(1, 0, -1, 1, -1), -1);
    }

    private static void treeAndShares() {
        OneLetterWrong x = new OneLetterWrong(2, 3);
        due(18, "no nodes", x.tree(0), 0);
        due(18, "no arcs", x.tree(1), 0);
        due(19, "no words", x.shares(0, 0, 0), false);
        for (int w = 0; w < 8; w++) {
            x.put(w, 1);
        }
        due(18, "all words: a node a depth", x.tree(0), 4);
        due(18, "two arcs each", x.tree(1), 6);
        due(19, "all beginnings of a length", x.shares(0, 7, 2), true);
        x.take(5);
        due(18, "one word less", x.tree(0), 6);
        due(18, "its arcs", x.tree(1), 9);
        due(19, "a and b lead apart", x.shares(0, 6, 1), false);
        due(19, "a word and itself", x.shares(6, 6, 1), true);
        due(19, "aa and bb lead to one", x.shares(0, 6, 2), true);
        due(19, "whole words", x.shares(0, 6, 3), true);
        due(19, "nothing", x.shares(0, 6, 0), true);
        due(19, "too many letters", x.shares(0, 6, 4), false);
        due(19, "below", x.shares(0, 6, -1), false);
        due(19, "none such", x.shares(0, 7, 0), false);
        due(19, "the first none such", x.shares(-1, 0, 0), false);
        due(18, "others above", x.tree(2), -1);
        due(18, "others below", x.tree(-1), -1);
    }

    private static void near() {
        OneLetterWrong x = new OneLetterWrong(3, 3);
        x.put(26, 1);
        x.put(2, 1);
        x.put(0, 1);
        due(20, "itself alone", x.near(2, 0, -1), 1);
        due(20, "a letter by two is one wrong", x.near(2, 1, -1), 2);
        due(20, "in the book's order", x.near(2, 1, 0), 2);
        due(20, "the second", x.near(2, 1, 1), 0);
        due(20, "two wrongs", x.near(2, 2, 0), 26);
        due(20, "all", x.near(13, 3, -1), 3);
        due(20, "none such", x.near(2, 1, 2), -1);
        due(20, "below", x.near(2, 1, -2), -1);
        due(20, "w above", x.near(2, 4, -1), -1);
        due(20, "w below", x.near(2, -1, -1), -1);
        due(20, "no word", x.near(27, 1, -1), -1);
        due(20, "none near", x.near(13, 0, -1), 0);
    }

    private static void apart() {
        OneLetterWrong x = new OneLetterWrong(2, 5);
        due(21, "of none", x.apart(1), 0);
        x.put(0, 1);
        due(21, "of one", x.apart(8), 1);
        x.put(3, 1);
        x.put(6, 1);
        x.put(5, 1);
        x.put(31, 1);
        // by one hand two of them share a word just if they are two places apart
        due(21, "0, 3, 6 and 5 are all two apart", x.apart(1), 16 + 1);
        due(21, "by none all", x.apart(0), 31);
        x.take(0);
        x.put(0, 1);
        due(21, "of like ones the lowest", x.apart(1), 8 + 1);
        Tape.read(x, "may from = 0 and into = 0;");
        x.by(0);
        due(21, "nothing can be heard, so nothing in common", x.apart(1), 31);
        x.by(-1);
        for (int w = 7; w < 18; w++) {
            x.put(w, 1);
        }
        due(21, "sixteen", x.about(5), 16);
        due(21, "sixteen may be", x.apart(0), 65535);
        x.put(18, 1);
        due(21, "seventeen", x.apart(0), -1);
        x.take(18);
        due(21, "nine hands", x.apart(9), -1);
        due(21, "below", x.apart(-1), -1);
        OneLetterWrong y = new OneLetterWrong(2, 4);
        // 0000 and 1111 have a word in common with each of the others, but not with one another, nor have those
        y.put(0, 1);
        y.put(3, 1);
        y.put(12, 1);
        y.put(15, 1);
        due(21, "of like ones the lowest number", y.apart(1), 6);
    }

    private static void logAndSaid() {
        OneLetterWrong x = new OneLetterWrong(2, 3);
        due(22, "hands at first", x.about(6), 0);
        due(22, "nine", x.log(9), false);
        due(22, "below", x.log(-1), false);
        due(22, "eight", x.log(8), true);
        due(22, "its hands", x.about(6), 8);
        due(23, "behind all", x.said(8, 7, 99), 1);
        due(23, "at first", x.said(0, 0, 0), 2);
        due(23, "nothing", x.said(0, -1, 0), 3);
        due(23, "no such hand", x.said(9, 0, 0), -1);
        due(23, "below", x.said(-1, 0, 0), -1);
        due(23, "no word", x.said(0, 8, 0), -1);
        due(23, "no word below", x.said(0, -2, 0), -1);
        due(23, "no time", x.said(0, 0, 100), -1);
        due(23, "no time below", x.said(0, 0, -1), -1);
        for (int i = 4; i <= 40; i++) {
            due(23, "the same once more", x.said(1, 1, 50), i);
        }
        due(23, "the 41st", x.said(1, 1, 50), -1);
        due(23, "forty", x.about(7), 40);
        due(22, "one that can't be does nothing", x.log(9), false);
        due(22, "forty still", x.about(7), 40);
        due(22, "a new one", x.log(0), true);
        due(22, "without anything told", x.about(7), 0);
        due(23, "of no hands", x.said(0, 5, 5), 1);
        due(23, "not behind one", x.said(1, 5, 5), -1);
    }

    private static void broke() {
        OneLetterWrong x = new OneLetterWrong(2, 4);
        due(24, "without a log", x.broke(0, 0), 0);
        due(24, "whose", x.broke(0, 1), 0);
        x.log(3);
        due(24, "nothing told", x.broke(99, 0), 0);
        x.said(0, 0, 10);
        x.said(3, 0, 10);
        due(24, "an odd number can't lead back", x.broke(10, 0), 1);
        due(24, "the lowest hand", x.broke(10, 1), 1);
        due(24, "ahead of it all can be", x.broke(9, 0), 0);
        x.said(1, 1, 20);
        due(24, "the first one did well", x.broke(20, 1), 2);
        due(24, "as of 19 that isn't known", x.broke(19, 1), 1);
        x.said(2, 15, 30);
        due(24, "two broke", x.broke(30, 0), 2);
        due(24, "the last two", x.broke(30, 1), 6);
        // told later at an earlier time: the last one told counts
        x.said(2, 0, 25);
        due(24, "the last one told", x.broke(30, 0), 1);
        due(24, "whose", x.broke(30, 1), 4);
        due(24, "as of 25", x.broke(25, 1), 4);
        due(24, "as of 24", x.broke(24, 1), 2);
        x.said(3, -1, 40);
        due(24, "nothing known of the end any more", x.broke(40, 0), 0);
        due(24, "but as of 39", x.broke(39, 0), 1);
        due(24, "time above", x.broke(100, 0), -1);
        due(24, "time below", x.broke(-1, 0), -1);
        due(24, "what above", x.broke(1, 2), -1);
        due(24, "what below", x.broke(1, -1), -1);
        lastBehindABreaker();
    }

    private static void lastBehindABreaker() {
        OneLetterWrong x = new OneLetterWrong(2, 4);
        Tape.read(x, "may last = -1 and hand < 2;");
        x.by(0);
        x.log(2);
        due(24, "hand 1 may do nothing, unless hand 0 broke the vow", x.broke(0, 0), 1);
        due(24, "the lowest of like ones", x.broke(0, 1), 1);
        x.log(3);
        due(24, "hand 2 never may", x.broke(0, 0), 2);
        due(24, "hands 0 and 2", x.broke(0, 1), 5);
        x.said(0, 0, 0);
        x.said(1, 0, 0);
        due(24, "who broke it may say the same word", x.broke(0, 1), 5);
        x.said(1, 1, 0);
        x.said(2, 9, 0);
        due(24, "hand 1 from -1 on", x.broke(0, 1), 5);
        x.said(2, 15, 0);
        due(24, "hand 0 can keep it then", x.broke(0, 1), 6);
    }

    private static void message() {
        OneLetterWrong x = new OneLetterWrong(3, 2);
        // X is 20, 20 mod 4 is 0: a of place 0 becomes b; X is 4273, mod 4 is 1: it becomes c
        due(25, "one hand", x.message(1, 0, 1), 3);
        due(25, "two hands", x.message(1, 0, 2), 6);
        due(25, "the greatest seed: 189982 mod 4 is 2", x.message(9999, 0, 1), 1);
        due(25, "seed above", x.message(10000, 0, 1), -1);
        due(25, "seed below", x.message(-1, 0, 1), -1);
        due(25, "no word", x.message(1, 9, 1), -1);
        due(25, "no hands", x.message(1, 0, 0), -1);
        due(25, "nine", x.message(1, 0, 9), -1);
        Tape.read(x, "may into > from and place = 1; weight 9;");
        x.by(0);
        // two changes: X is 20, the first of them; then one: c; then none
        due(25, "one hand of those that may", x.message(1, 0, 1), 1);
        due(25, "then one change", x.message(1, 0, 2), 2);
        due(25, "then it ends", x.message(1, 0, 8), 2);
        Tape.read(x, "may place # last and hand # 2;");
        x.by(1);
        due(25, "X is 1, then 264, then nothing", x.message(0, 0, 3), 6 + 1);
    }

    private static void imageAndBack() {
        OneLetterWrong x = new OneLetterWrong(2, 3);
        x.put(5, 3);
        x.put(1, 2);
        Tape.read(x, "may place = 0; road 1 to 1;");
        x.by(0);
        x.log(2);
        x.said(1, 1, 1);
        due(26, "how many", x.image(), 2);
        x.take(5);
        x.put(7, 1);
        x.put(0, 1);
        Tape.read(x, "may place = 1;");
        x.by(1);
        x.log(5);
        x.said(0, 0, 0);
        x.said(0, 0, 0);
        Tape.lay(x, "abc");
        due(27, "how many", x.back(), 2);
        due(27, "the first", x.book(0), 5);
        due(27, "its prior", x.about(10), 3);
        due(27, "0 can be put in again", x.put(0, 1), 3);
        due(27, "5 is there", x.put(5, 1), -1);
        due(27, "texts", x.about(3), 1);
        due(27, "the text", x.about(4), 0);
        due(27, "its vow", x.heard(0, 1, 0), 4);
        due(27, "the log's hands", x.about(6), 2);
        due(27, "what was told", x.about(7), 1);
        due(27, "the tape is as it is", x.about(8), 3);
        due(27, "another second text", Tape.read(x, "may place = 2;"), 1);
        x.by(1);
        due(27, "its vow", x.heard(0, 1, 0), 1);
        due(27, "the image stays", x.back(), 2);
        due(27, "once more", x.heard(0, 1, 0), 4);
        due(26, "a new image", x.image(), 2);
        x.take(1);
        due(26, "of what is now", x.image(), 1);
        x.take(5);
        due(27, "back to that", x.back(), 1);
        due(27, "the one word", x.book(0), 5);
        due(27, "none more", x.book(1), -1);
    }

    private static void about() {
        OneLetterWrong x = new OneLetterWrong(4, 3);
        int[] first = {4, 3, 64, 0, -1, 0, 0, 0, 0, 0, -2};
        for (int i = 0; i < first.length; i++) {
            due(28, "of a new one " + i, x.about(i), first[i]);
        }
        x.put(63, 8);
        x.put(1, 9);
        Tape.read(x, "road 1 to 1; road 2 to 2; road 0 to 8;");
        Tape.read(x, "");
        x.by(0);
        x.log(7);
        x.said(1, 1, 1);
        x.feed(0, 0, 0, 0, 0);
        int[] then = {4, 3, 64, 2, 0, 2, 7, 1, 20, 3, 8, 9, -2};
        for (int i = 0; i < then.length; i++) {
            due(28, "then " + i, x.about(i), then[i]);
        }
        due(28, "below", x.about(-1), -2);
        due(28, "far below", x.about(Integer.MIN_VALUE), -2);
        due(28, "far above", x.about(Integer.MAX_VALUE), -2);
    }
}
