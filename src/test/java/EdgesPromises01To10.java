/** The edges of promises 1 to 10: a new object, the book, the tape, texts. */
public final class EdgesPromises01To10 extends Edges {
    private EdgesPromises01To10() {
    }

    public static void main(String[] args) {
        run(EdgesPromises01To10.class);
    }

    private static void size(int a, int l, int... want) {
        OneLetterWrong x = new OneLetterWrong(a, l);
        due("A, L, N of (" + a + ", " + l + ")", new long[] {x.about(0), x.about(1), x.about(2)}, want[0], want[1], want[2]);
    }

    // promise 1

    @Says(at = "Promise 1: A new object", value = "A LETTERS (2 to 5;")
    static void promise01_2_to_5_letters_are_taken_as_told() {
        size(2, 2, 2, 2, 4);
        size(3, 2, 3, 2, 9);
        size(4, 2, 4, 2, 16);
        size(5, 2, 5, 2, 25);
    }

    @Says(at = "Promise 1: A new object", value = "others: the nearest of these),")
    static void promise01_of_other_letters_the_nearest() {
        size(1, 3, 2, 3, 8);
        size(0, 3, 2, 3, 8);
        size(-1, 3, 2, 3, 8);
        size(LEAST, 3, 2, 3, 8);
        size(6, 3, 5, 3, 125);
        size(1000, 3, 5, 3, 125);
        size(MOST, 3, 5, 3, 125);
    }

    @Says(at = "Promise 1: A new object", value = "WORDS of L (2 to 8 likewise;")
    static void promise01_2_to_8_letters_a_word_others_the_nearest() {
        for (int l = 2; l <= 8; l++) {
            size(2, l, 2, l, 1 << l);
        }
        size(2, 1, 2, 2, 4);
        size(2, 0, 2, 2, 4);
        size(2, LEAST, 2, 2, 4);
        size(2, 9, 2, 8, 256);
        size(2, MOST, 2, 8, 256);
        size(5, -7, 5, 2, 25);
    }

    @Says(at = "Promise 1: A new object", value = "the greatest that may be, if A to the power of L is above 256);")
    static void promise01_the_greatest_length_that_may_be() {
        size(3, 5, 3, 5, 243);
        size(3, 6, 3, 5, 243);
        size(3, 8, 3, 5, 243);
        size(3, MOST, 3, 5, 243);
        size(4, 4, 4, 4, 256);
        size(4, 5, 4, 4, 256);
        size(4, 8, 4, 4, 256);
        size(5, 3, 5, 3, 125);
        size(5, 4, 5, 3, 125);
        size(5, 8, 5, 3, 125);
        size(MOST, MOST, 5, 3, 125);
        size(LEAST, MOST, 2, 8, 256);
    }

    @Says(at = "Promise 1: A new object", value = "THE IMAGE is this.")
    static void promise01_the_first_image_is_the_new_object() {
        OneLetterWrong x = new OneLetterWrong(2, 3);
        String before = state(x);
        due("back at once", x.back(), 0);
        due("changes nothing", state(x).equals(before), true);
        x.put(1, 1);
        x.log(4);
        x.said(0, 1, 1);
        Tape.read(x, "may place = 0; road 0 to 1;");
        x.by(0);
        due("back", x.back(), 0);
        due("no words, texts, text, log, told", new long[] {x.about(5), x.about(3), x.about(4), x.about(6), x.about(7)},
                0, 0, NONE, 0, 0);
        due("no vow", x.heard(0, 1, NONE), 3);
        due("the word can be put in again", x.put(1, 1), 1);
    }

    @Says(at = "Promise 1: A new object", value = "A LETTERS (2 to 5;")
    static void promise01_a_new_object_has_nothing() {
        OneLetterWrong x = new OneLetterWrong(4, 3);
        long[] all = new long[11];
        for (int what = 0; what < 11; what++) {
            all[what] = x.about(what);
        }
        due("about 0 to 10", all, 4, 3, 64, 0, NONE, 0, 0, 0, 0, 0, -2);
        due("no fault", new long[] {x.fault(0), x.fault(1)}, NONE, NONE);
    }

    // promise 2

    @Says(at = "Promise 2: put", value = "A WORD is put into THE BOOK: how many there are.")
    static void promise02_put_answers_how_many_there_are() {
        OneLetterWrong x = new OneLetterWrong(2, 6);
        for (int i = 1; i <= 40; i++) {
            due("put, the " + i + "th", x.put(64 - i, 1 + i % 9), i);
        }
        due("the first", new long[] {x.book(0), x.about(10)}, 63, 2);
        due("the last", new long[] {x.book(39), x.about(49)}, 24, 5);
    }

    @Says(at = "Promise 2: put", value = "NONE for others,")
    static void promise02_none_for_what_is_no_word() {
        OneLetterWrong x = new OneLetterWrong(3, 2);
        x.put(4, 4);
        others("put of a word", x, NONE, w -> x.put(w, 1), -1, 9);
        OneLetterWrong y = new OneLetterWrong(2, 8);
        others("put of a word", y, NONE, w -> y.put(w, 9), -1, 256);
    }

    @Says(at = "Promise 2: put", value = "NONE for others,")
    static void promise02_none_for_what_is_no_prior() {
        OneLetterWrong x = new OneLetterWrong(3, 2);
        x.put(4, 4);
        others("put with a prior", x, NONE, p -> x.put(0, p), -1, 0, 10);
        due("1 is one", x.put(0, 1), 2);
        due("9 is one", x.put(8, 9), 3);
    }

    @Says(at = "Promise 2: put", value = "if it is there,")
    static void promise02_none_if_it_is_there() {
        OneLetterWrong x = new OneLetterWrong(2, 2);
        x.put(3, 4);
        refused("the same with another prior", x, NONE, () -> x.put(3, 5));
        refused("the same", x, NONE, () -> x.put(3, 4));
        x.take(3);
        due("when it was taken out", x.put(3, 5), 1);
        x.back();
        due("when it isn't there any more", x.put(3, 6), 1);
    }

    @Says(at = "Promise 2: put", value = "or there are 40.")
    static void promise02_none_if_there_are_40() {
        OneLetterWrong x = new OneLetterWrong(2, 6);
        putFirst(x, 40);
        refused("the 41st", x, NONE, () -> x.put(40, 1));
        x.take(7);
        due("in its place", x.put(40, 1), 40);
        due("and no more", x.put(41, 1), NONE);
    }

    // promise 3

    @Says(at = "Promise 3: take", value = "A WORD is taken out: how many there are.")
    static void promise03_take_answers_how_many_are_left() {
        OneLetterWrong x = new OneLetterWrong(2, 3);
        x.put(7, 1);
        x.put(0, 2);
        x.put(3, 3);
        x.put(5, 4);
        due("one in the middle", x.take(0), 3);
        due("those left", bookOf(x), 7, 3, 5);
        due("with their priors", new long[] {x.about(10), x.about(11), x.about(12), x.about(13)}, 1, 3, 4, -2);
        due("the last one", x.take(5), 2);
        due("the next", x.take(3), 1);
        due("the only one", x.take(7), 0);
        due("none are left", bookOf(x));
    }

    @Says(at = "Promise 3: take", value = "NONE: it isn't there.")
    static void promise03_none_if_it_is_not_there() {
        OneLetterWrong x = new OneLetterWrong(2, 3);
        due("of an empty book", x.take(0), NONE);
        x.put(7, 1);
        refused("one that was never there", x, NONE, () -> x.take(6));
        x.put(0, 1);
        x.take(0);
        refused("one that was taken out", x, NONE, () -> x.take(0));
        others("what is no word", x, NONE, x::take, -1, 8);
    }

    @Says(at = "Promise 3: take", value = "A WORD is taken out: how many there are.")
    static void promise03_take_from_a_full_book() {
        OneLetterWrong x = new OneLetterWrong(2, 6);
        putFirst(x, 40);
        due("the first", x.take(0), 39);
        due("the last", x.take(39), 38);
        due("the ends", new long[] {x.book(0), x.book(37), x.book(38)}, 1, 38, NONE);
    }

    // promise 4

    @Says(at = "Promise 4: feed", value = "Twenty bytes come behind the tape, the highest of a first: how many it has.")
    static void promise04_twenty_bytes_the_highest_first() {
        OneLetterWrong x = new OneLetterWrong(2, 2);
        // "road", " 1 t", "o 2;", "road", " 0 t" and then "o 1;"
        due("twenty", x.feed(0x726f6164, 0x20312074, 0x6f20323b, 0x726f6164, 0x20302074), 20);
        due("forty", x.feed(0x6f20313b, 0x20202020, 0x20202020, 0x20202020, 0x0a0a0a0a), 40);
        due("they are a text", x.text(), 0);
        x.by(0);
        due("of two roads", x.about(9), 2);
        due("road 1 to 2: two places", x.road(0, 3, 0), true);
        due("road 0 to 1: not two places", x.road(0, 3, 1), false);
    }

    @Says(at = "Promise 4: feed", value = "Twenty bytes come behind the tape, the highest of a first: how many it has.")
    static void promise04_each_of_the_twenty_bytes_has_its_place() {
        for (int place = 0; place < 20; place++) {
            int[] fives = {0x20202020, 0x20202020, 0x20202020, 0x20202020, 0x20202020};
            // the highest bit too: 0x20 becomes 0xa0, which is no blank
            fives[place / 4] |= 0x80 << 24 - place % 4 * 8;
            OneLetterWrong x = new OneLetterWrong(2, 2);
            x.feed(fives[0], fives[1], fives[2], fives[3], fives[4]);
            due("no text", x.text(), NONE);
            due("the byte's place", x.fault(1), place);
        }
    }

    @Says(at = "Promise 4: feed", value = "NONE, and none come, if there would be more than 300.")
    static void promise04_none_if_there_would_be_more_than_300() {
        OneLetterWrong x = new OneLetterWrong(2, 2);
        for (int i = 1; i <= 15; i++) {
            due("feed " + i, x.feed(0x20202020, 0x20202020, 0x20202020, 0x20202020, 0x20202020), 20 * i);
        }
        refused("320", x, NONE, () -> x.feed(1, 1, 1, 1, 1));
        x.end(281);
        refused("301", x, NONE, () -> x.feed(1, 1, 1, 1, 1));
        due("none came: blanks alone", x.text(), 0);
        due("the tape is empty, so there is room", x.feed(1, 1, 1, 1, 1), 20);
    }

    @Says(at = "Promise 4: feed", value = "NONE, and none come, if there would be more than 300.")
    static void promise04_300_may_be() {
        OneLetterWrong x = new OneLetterWrong(2, 2);
        for (int i = 1; i <= 15; i++) {
            x.feed(0x20202020, 0x20202020, 0x20202020, 0x20202020, 0x20202020);
        }
        x.end(280);
        due("280 and 20", x.feed(0x20202020, 0x20202020, 0x20202020, 0x20202020, 0x20202021), 300);
        due("the last one is read", x.text(), NONE);
        due("at 299", x.fault(1), 299);
    }

    // promise 5

    @Says(at = "Promise 5: end", value = "The tape has its first n bytes alone: n.")
    static void promise05_the_first_n_bytes_are_left() {
        OneLetterWrong x = new OneLetterWrong(2, 2);
        x.feed(0x21202020, 0x20202020, 0x20202020, 0x20202020, 0x20202022);
        due("all of them", x.end(20), 20);
        due("all but the last", x.end(19), 19);
        due("how many it has", x.about(8), 19);
        due("the first one is left", x.text() == NONE && x.fault(1) == 0, true);
        x.feed(0x20202020, 0x20202020, 0x20202020, 0x20202020, 0x20202022);
        x.end(19);
        due("the last one isn't", x.text(), 0);
        x.feed(0x22222222, 0x22222222, 0x22222222, 0x22222222, 0x22222222);
        due("none", x.end(0), 0);
        due("an empty text", x.text(), 1);
    }

    @Says(at = "Promise 5: end", value = "The tape has its first n bytes alone: n.")
    static void promise05_the_next_bytes_come_behind_the_first_n() {
        OneLetterWrong x = new OneLetterWrong(2, 2);
        x.feed(0x20202022, 0x22222222, 0x22222222, 0x22222222, 0x22222222);
        x.end(3);
        due("three and twenty", x.feed(0x20202020, 0x20202020, 0x20202020, 0x20202020, 0x20202022), 23);
        x.text();
        due("the last of them", x.fault(1), 22);
    }

    @Says(at = "Promise 5: end", value = "NONE, and nothing is done, if it has not so many,")
    static void promise05_none_if_it_has_not_so_many() {
        OneLetterWrong x = new OneLetterWrong(2, 2);
        refused("one of none", x, NONE, () -> x.end(1));
        x.feed(0, 0, 0, 0, 0);
        refused("21 of 20", x, NONE, () -> x.end(21));
        refused("very many", x, NONE, () -> x.end(MOST));
        due("20 of 20", x.end(20), 20);
        due("5 of 20", x.end(5), 5);
        refused("6 of 5, though they were there", x, NONE, () -> x.end(6));
    }

    @Says(at = "Promise 5: end", value = "or n is below 0.")
    static void promise05_none_if_n_is_below_0() {
        OneLetterWrong x = new OneLetterWrong(2, 2);
        x.feed(0, 0, 0, 0, 0);
        refused("-1", x, NONE, () -> x.end(-1));
        refused("far below", x, NONE, () -> x.end(LEAST));
        due("0 isn't", x.end(0), 0);
    }

    // promise 6

    @Says(at = "Promise 6: text", value = "The tape (empty then) is a TEXT: its number.")
    static void promise06_a_text_has_the_next_number_and_the_tape_is_empty() {
        OneLetterWrong x = new OneLetterWrong(2, 2);
        due("an empty one", x.text(), 0);
        for (int number = 1; number <= 3; number++) {
            due("text " + number, Tape.read(x, "road 0 to 1;"), number);
            due("the tape", x.about(8), 0);
            due("how many", x.about(3), number + 1);
        }
    }

    @Says(at = "Promise 6: text", value = "NONE: it has a FAULT;")
    static void promise06_none_if_it_has_a_fault() {
        OneLetterWrong x = new OneLetterWrong(2, 2);
        due("a fault", Tape.read(x, "road 0 to 1; road 1 to 0;"), NONE);
        due("it is no text", x.about(3), 0);
        due("by", x.by(0), false);
        due("the next is the first", Tape.read(x, "road 0 to 1;"), 0);
        due("a fault", Tape.read(x, "road 1 to 1; may place;"), NONE);
        x.by(0);
        due("nothing of it stays: one road", x.about(9), 1);
        due("no second text", x.by(1), false);
    }

    @Says(at = "Promise 6: text", value = "NONE: it has a FAULT;")
    static void promise06_nothing_of_a_text_with_a_fault_stays() {
        OneLetterWrong x = new OneLetterWrong(2, 2);
        due("a fault", Tape.read(x, "may 1=2; weight 7; book ab 1; book ba 2; road 3 to 3; road 4 to 4; ;"), NONE);
        due("the next text", Tape.read(x, "book bb 3; road 0 to 0;"), 0);
        x.by(0);
        due("all may be", x.heard(0, 1, NONE), 2);
        due("weight 1", x.ways(0, 1, 1), 1);
        due("one word", x.filled(0), 1);
        due("it", bookOf(x), 3);
        due("one road", new long[] {x.about(9), bit(x.road(0, 0, 0))}, 1, 1);
        due("another fault", Tape.read(x, "may 1=2 or 1=2; weight 7; ;"), NONE);
        due("the formulas the other way round", Tape.read(x, "weight 5; may place = 1;"), 1);
        x.by(1);
        due("they are those of this text", new long[] {x.ways(0, 1, 1), x.ways(0, 2, 1)}, 5, 0);
        due("a very long one", Tape.read(x, "weight " + "1+".repeat(146) + "1"), NONE);
        due("the next very long one", Tape.read(x, "weight " + "1+".repeat(140) + "1-136;"), 2);
        x.by(2);
        due("is worked out whole", x.ways(0, 1, 1), 5);
    }

    @Says(at = "Promise 6: text", value = "NONE: it has a FAULT;")
    static void promise06_with_a_fault_the_tape_is_empty_too() {
        // that the tape stays is told of four texts alone
        OneLetterWrong x = new OneLetterWrong(2, 2);
        due("a fault", Tape.read(x, "may"), NONE);
        due("the tape", x.about(8), 0);
    }

    @Says(at = "Promise 6: text", value = "or (the tape stays) there are 4.")
    static void promise06_none_if_there_are_4_and_the_tape_stays() {
        OneLetterWrong x = new OneLetterWrong(2, 2);
        for (int i = 0; i < 4; i++) {
            due("text " + i, Tape.read(x, "road 0 to " + i + ";"), i);
        }
        Tape.lay(x, "road 2 to 2;");
        refused("the fifth", x, NONE, x::text);
        Tape.lay(x, "weight 10000;");
        refused("nor is a fault seen", x, NONE, x::text);
        due("its bytes stay", x.about(8), 13);
        x.back();
        due("when there is room they are read", x.text(), NONE);
        due("their fault", x.fault(0), 2);
    }

    @Says(at = "Promise 6: text", value = "or (the tape stays) there are 4.")
    static void promise06_a_text_with_a_fault_is_none_of_the_4() {
        OneLetterWrong x = new OneLetterWrong(2, 2);
        for (int i = 0; i < 4; i++) {
            due("a fault", Tape.read(x, "road"), NONE);
            due("text " + i, Tape.read(x, "road 0 to 1;"), i);
        }
        Tape.lay(x, "");
        refused("even an empty one", x, NONE, x::text);
    }

    // promise 7

    @Says(at = "Promise 7: fault", value = "Of the latest text that was read: 0 its FAULT (0 without),")
    static void promise07_0_is_the_fault_of_the_latest_0_without() {
        OneLetterWrong x = new OneLetterWrong(2, 2);
        String[] texts = {";", "weight 10000;", "weight (((((((((1", "may 1=1;may", "road 0 to 0;".repeat(24) + "road"};
        for (int kind = 1; kind <= 5; kind++) {
            Tape.read(x, texts[kind - 1]);
            due("kind " + kind, x.fault(0), kind);
            due("asked again", x.fault(0), kind);
        }
        Tape.read(x, "weight 1;");
        due("without", x.fault(0), 0);
        Tape.lay(x, ";");
        due("what is on the tape isn't read", x.fault(0), 0);
    }

    @Says(at = "Promise 7: fault", value = "1 its place (NONE without).")
    static void promise07_1_is_its_place_none_without() {
        OneLetterWrong x = new OneLetterWrong(2, 2);
        Tape.read(x, ";");
        due("at 0", x.fault(1), 0);
        Tape.read(x, " ".repeat(299) + ";");
        due("at 299", x.fault(1), 299);
        Tape.read(x, "may" + " ".repeat(297));
        due("at 300", x.fault(1), 300);
        Tape.read(x, "");
        due("without", x.fault(1), NONE);
    }

    @Says(at = "Promise 7: fault", value = "NONE for others,")
    static void promise07_none_for_others() {
        OneLetterWrong x = new OneLetterWrong(2, 2);
        Tape.read(x, "weight 10000;");
        others("fault", x, NONE, x::fault, -1, 2, 3);
    }

    @Says(at = "Promise 7: fault", value = "and ahead of any.")
    static void promise07_none_ahead_of_any() {
        OneLetterWrong x = new OneLetterWrong(2, 2);
        due("0 and 1", new long[] {x.fault(0), x.fault(1)}, NONE, NONE);
        Tape.lay(x, ";");
        due("with a tape", new long[] {x.fault(0), x.fault(1)}, NONE, NONE);
        x.text();
        due("then", new long[] {x.fault(0), x.fault(1)}, 1, 0);
    }

    // promise 8

    @Says(at = "Promise 8: by", value = "THE TEXT (NONE: none): true.")
    static void promise08_a_text_or_none_rules() {
        OneLetterWrong x = new OneLetterWrong(2, 2);
        due("none ahead of any", x.by(NONE), true);
        for (int i = 0; i < 4; i++) {
            Tape.read(x, "weight " + (i + 2) + ";");
        }
        for (int i = 3; i >= 0; i--) {
            due("text " + i, x.by(i), true);
            due("it is told", x.about(4), i);
            due("its weight", x.ways(0, 1, 1), i + 2);
        }
        due("the same again", x.by(0), true);
        due("none", x.by(NONE), true);
        due("none is told", x.about(4), NONE);
        due("weight 1", x.ways(0, 1, 1), 1);
    }

    @Says(at = "Promise 8: by", value = "False for others.")
    static void promise08_false_for_others() {
        OneLetterWrong x = new OneLetterWrong(2, 2);
        others("by, without texts", x, 0, t -> bit(x.by(t)), 0, 1, -2);
        Tape.read(x, "may place = 1;");
        x.by(0);
        others("by, with one", x, 0, t -> bit(x.by(t)), 1, 2, 3, 4, -2);
    }

    @Says(at = "Promise 8: by", value = "False for others.")
    static void promise08_false_for_a_text_that_is_gone() {
        OneLetterWrong x = new OneLetterWrong(2, 2);
        Tape.read(x, "may place = 1;");
        due("there", x.by(0), true);
        x.back();
        due("gone", x.by(0), false);
        due("none rules", x.about(4), NONE);
        Tape.read(x, "may place = 0;");
        due("another one is text 0 now", x.by(0), true);
        due("its vow", hears(x, 0, 1), 2);
    }

    // promise 9

    @Says(at = "Promise 9: filled", value = "FILLED by a TEXT.")
    static void promise09_filled_answers_how_many_were_put_in() {
        OneLetterWrong x = new OneLetterWrong(2, 2);
        Tape.read(x, "");
        Tape.read(x, "book ab 1; book ab 2; book bb 9;");
        due("by none of its clauses", x.filled(0), 0);
        due("by two of three", x.filled(1), 2);
        due("once more", x.filled(1), 0);
        due("the book", bookOf(x), 1, 3);
        due("it doesn't rule", x.about(4), NONE);
    }

    @Says(at = "Promise 9: filled", value = "FILLED by a TEXT.")
    static void promise09_filled_into_a_full_book() {
        OneLetterWrong x = new OneLetterWrong(2, 6);
        Tape.read(x, "book bbbbbb 1;");
        putFirst(x, 40);
        refused("full", x, 0, () -> x.filled(0));
        x.take(0);
        due("room for one", x.filled(0), 1);
        due("the last", x.book(39), 63);
    }

    @Says(at = "Promise 9: filled", value = "NONE for others.")
    static void promise09_none_for_others() {
        OneLetterWrong x = new OneLetterWrong(2, 2);
        others("filled, without texts", x, NONE, x::filled, -1, 0, 1);
        Tape.read(x, "book ab 1;");
        x.by(0);
        others("filled, with one", x, NONE, x::filled, -1, 1, 2, 3, 4);
    }

    // promise 10

    @Says(at = "Promise 10: book", value = "The i-th WORD of THE BOOK;")
    static void promise10_the_ith_word_counts_from_0() {
        OneLetterWrong x = new OneLetterWrong(2, 6);
        for (int i = 0; i < 40; i++) {
            x.put(63 - i, 1);
        }
        for (int i = 0; i < 40; i++) {
            due("word " + i, x.book(i), 63 - i);
        }
    }

    @Says(at = "Promise 10: book", value = "i NONE: how many.")
    static void promise10_none_asks_how_many() {
        OneLetterWrong x = new OneLetterWrong(2, 6);
        due("of none", x.book(NONE), 0);
        for (int i = 1; i <= 40; i++) {
            x.put(i, 1);
            due("of " + i, x.book(NONE), i);
        }
        x.put(41, 1);
        due("of 40 still", x.book(NONE), 40);
    }

    @Says(at = "Promise 10: book", value = "NONE if there is none such,")
    static void promise10_none_if_there_is_none_such() {
        OneLetterWrong x = new OneLetterWrong(2, 6);
        due("0 of none", x.book(0), NONE);
        x.put(5, 1);
        due("1 of one", x.book(1), NONE);
        x.take(5);
        due("0 when it was taken out", x.book(0), NONE);
        putFirst(x, 40);
        due("40 of 40", x.book(40), NONE);
        due("39 of 40", x.book(39), 39);
    }

    @Says(at = "Promise 10: book", value = "and for others.")
    static void promise10_none_for_others() {
        OneLetterWrong x = new OneLetterWrong(2, 6);
        putFirst(x, 3);
        others("book", x, NONE, x::book, -2, -3, 3, 40, 63, 64);
    }
}
