/** The edges of "What it is" and of the first part of the terms: letters, words, the book, hands. */
public final class EdgesTerms1 extends Edges {
    private static final String WHAT = "What it is";
    private static final String TERMS = "Terms I";

    private EdgesTerms1() {
    }

    public static void main(String[] args) {
        run(EdgesTerms1.class);
    }

    @Says(at = WHAT, value = "An object is used for at most 512 calls after it has been made;")
    static void whatItIs_the_512th_call_answers() {
        OneLetterWrong x = new OneLetterWrong(2, 3);
        for (int i = 0; i < 255; i++) {
            due("put, call " + (2 * i + 1), x.put(5, 1 + i % 9), 1);
            due("take, call " + (2 * i + 2), x.take(5), 0);
        }
        due("put, call 511", x.put(5, 4), 1);
        due("about, call 512", x.about(10), 4);
    }

    @Says(at = WHAT, value = "An object is used for at most 512 calls after it has been made;")
    static void whatItIs_512_calls_of_the_dearest_kinds_answer() {
        OneLetterWrong x = new OneLetterWrong(2, 8);
        putFirst(x, 16);
        x.log(8);
        for (int i = 17; i < 508; i += 5) {
            due("apart, call " + (i + 1), x.apart(0), 65535);
            due("ways, call " + (i + 2), x.ways(0, 255, 8), 40320);
            due("broke, call " + (i + 3), x.broke(99, 0), 0);
            due("tree, call " + (i + 4), x.tree(0), 9);
            due("heard, call " + (i + 5), x.heard(0, 8, NONE), 128);
        }
    }

    @Says(at = WHAT, value = "what later calls answer is free.")
    static void whatItIs_later_calls_end_all_the_same() {
        OneLetterWrong x = new OneLetterWrong(3, 3);
        for (int i = 0; i < 3000; i++) {
            x.put(i % 27, 1 + i % 9);
            x.feed(i, i, i, i, i);
            x.said(0, i % 27, i % 100);
            x.text();
            x.image();
        }
    }

    @Says(at = TERMS, value = "LETTERS a, b, .. (A of them, 2 to 5);")
    static void terms1_the_last_of_2_to_5_letters_is_one_and_the_next_is_none() {
        for (int a = 2; a <= 5; a++) {
            char last = (char) ('a' + a - 1);
            char next = (char) ('a' + a);
            good(a, 2, "book a" + last + " 1;");
            fault(a, 2, "book a" + next + " 1;", 2, 5);
            due("changes of two letters of " + a, new OneLetterWrong(a, 2).heard(0, 1, NONE), 2 * (a - 1));
        }
    }

    @Says(at = TERMS, value = "WORDS of L letters (2 to 8),")
    static void terms1_words_have_2_to_8_letters_neither_more_nor_less() {
        for (int l = 2; l <= 8; l++) {
            due("L", new OneLetterWrong(2, l).about(1), l);
            good(2, l, "book " + "b".repeat(l) + " 1;");
            fault(2, l, "book " + "b".repeat(l - 1) + " 1;", 2, 5);
            fault(2, l, "book " + "b".repeat(l + 1) + " 1;", 2, 5);
        }
    }

    @Says(at = TERMS, value = "A to the power of L being 256 at most;")
    static void terms1_there_are_256_words_at_most() {
        due("2 to the power of 8", new OneLetterWrong(2, 8).about(2), 256);
        due("4 to the power of 4", new OneLetterWrong(4, 4).about(2), 256);
        due("3 to the power of 5, 729 being too many", new OneLetterWrong(3, 6).about(2), 243);
        due("4 to the power of 4, 1024 being too many", new OneLetterWrong(4, 5).about(2), 256);
        due("5 to the power of 3, 625 being too many", new OneLetterWrong(5, 4).about(2), 125);
    }

    @Says(at = TERMS, value = "as a number: letters a 0, b 1, .., figures to the base A, the first letter the highest one")
    static void terms1_the_first_letter_is_the_highest_figure() {
        OneLetterWrong x = ruled(3, 2, "book aa 1; book ab 1; book ba 1; book ca 1; book cc 1;");
        x.filled(0);
        due("aa, ab, ba, ca, cc of three letters", bookOf(x), 0, 1, 3, 6, 8);
        OneLetterWrong y = ruled(5, 3, "book eaa 1; book aea 1; book aae 1; book eee 1;");
        y.filled(0);
        due("eaa, aea, aae, eee of five letters", bookOf(y), 100, 20, 4, 124);
    }

    @Says(at = TERMS, value = "(N WORDS, 0 .. N - 1).")
    static void terms1_words_are_0_to_N_less_1() {
        for (int a = 2; a <= 5; a++) {
            OneLetterWrong x = new OneLetterWrong(a, 2);
            int n = a * a;
            due("N", x.about(2), n);
            due("N", x.put(n, 1), NONE);
            due("-1", x.put(-1, 1), NONE);
            due("0", x.put(0, 1), 1);
            due("N - 1", x.put(n - 1, 1), 2);
        }
    }

    @Says(at = TERMS, value = "THE BOOK: WORDS, each with a PRIOR (1 .. 9),")
    static void terms1_a_prior_is_1_to_9() {
        OneLetterWrong x = new OneLetterWrong(2, 4);
        for (int prior = 1; prior <= 9; prior++) {
            due("prior " + prior, x.put(prior, prior), prior);
            due("it is kept", x.about(9 + prior), prior);
        }
        due("prior 0", x.put(10, 0), NONE);
        due("prior 10", x.put(10, 10), NONE);
        fault(2, 2, "book ab 0;", 2, 8);
        good(2, 2, "book ab 1;");
        good(2, 2, "book ab 9;");
        fault(2, 2, "book ab 10;", 2, 8);
    }

    @Says(at = TERMS, value = "in the order in which they were put in,")
    static void terms1_the_book_is_in_the_order_of_putting_in() {
        OneLetterWrong x = new OneLetterWrong(2, 3);
        putAll(x, 7, 0, 3);
        due("as put in", bookOf(x), 7, 0, 3);
        x.take(0);
        due("without the middle one", bookOf(x), 7, 3);
        x.put(0, 1);
        due("put in again it is the last", bookOf(x), 7, 3, 0);
        x.take(7);
        due("without the first one", bookOf(x), 3, 0);
    }

    @Says(at = TERMS, value = "40 at most,")
    static void terms1_the_book_has_40_at_most() {
        OneLetterWrong x = new OneLetterWrong(2, 6);
        putFirst(x, 39);
        due("the 40th", x.put(39, 1), 40);
        due("the 41st", x.put(40, 1), NONE);
        due("40 there are", x.book(NONE), 40);
        x.take(0);
        due("there is room again", x.put(40, 1), 40);
    }

    @Says(at = TERMS, value = "none twice.")
    static void terms1_the_book_has_no_word_twice() {
        OneLetterWrong x = new OneLetterWrong(2, 2);
        x.put(3, 2);
        due("the same with another prior", x.put(3, 4), NONE);
        due("the prior stays", x.about(10), 2);
        x.put(0, 5);
        due("the same with the same prior", x.put(3, 2), NONE);
        due("once there", bookOf(x), 3, 0);
        due("with its first prior", x.about(10), 2);
        Tape.read(x, "book bb 9; book ab 1; book ab 2;");
        due("nor by a text", x.filled(0), 1);
        due("once there", bookOf(x), 3, 0, 1);
    }

    @Says(at = TERMS, value = "HANDS 0, 1, .. one behind the other:")
    static void terms1_hands_count_from_0() {
        OneLetterWrong x = ruled(2, 3, "may place = hand;");
        due("by hand 0", hears(x, 0, 1), word(2, "baa"));
        due("by hands 0 and 1", hears(x, 0, 2), word(2, "bba"));
        due("by hands 0, 1 and 2", hears(x, 0, 3), word(2, "bbb"));
        due("there is no place 3", hears(x, 0, 4));
    }

    @Says(at = TERMS, value = "each changes the letter at one PLACE (0 .. L - 1)")
    static void terms1_a_hand_changes_one_letter_at_place_0_to_L_less_1() {
        OneLetterWrong x = new OneLetterWrong(2, 8);
        due("one place each", hears(x, 0, 1), 1, 2, 4, 8, 16, 32, 64, 128);
        due("the first letter is at place 0", x.row(0, 128, 1, 0), 1);
        due("the last one at place 7", x.row(0, 1, 1, 0), 71);
        due("not two letters", x.bars(0, 3, 1), 1);
    }

    @Says(at = TERMS, value = "to another one,")
    static void terms1_a_hand_never_keeps_the_letter() {
        OneLetterWrong x = new OneLetterWrong(3, 2);
        due("not into itself", x.bars(4, 4, 1), 1);
        due("no way", x.ways(4, 4, 1), 0);
        due("the four others", hears(x, 4, 1), 1, 3, 5, 7);
        OneLetterWrong y = ruled(3, 2, "may into = from;");
        due("even if the vow asks for it", y.heard(4, 1, NONE), 0);
        due("nor in a message", y.message(0, 4, 1), 4);
    }

    @Says(at = TERMS, value = "as THE VOW lets: a may clause is so")
    static void terms1_the_vow_lets_what_its_may_clause_tells() {
        OneLetterWrong x = ruled(3, 2, "may place = 1 and into = 2;");
        due("place 1 into c", hears(x, 0, 1), word(3, "ac"));
        due("from c there is none", hears(x, word(3, "ac"), 1));
        due("no change at all", hears(ruled(3, 2, "may 1 = 2;"), 0, 1));
        due("each change", ruled(3, 2, "may 1 = 1;").heard(0, 1, NONE), 4);
    }

    @Says(at = TERMS, value = "(without: all).")
    static void terms1_without_a_may_clause_all_may_be_done() {
        due("without a text", new OneLetterWrong(3, 2).heard(0, 1, NONE), 4);
        due("by an empty text", ruled(3, 2, "").heard(0, 1, NONE), 4);
        due("by a text without may", ruled(3, 2, "weight 0; road 0 to 0;").heard(0, 1, NONE), 4);
    }

    @Says(at = TERMS, value = "The WEIGHT of a change: weight (1 at least,")
    static void terms1_a_weight_is_1_at_least() {
        sum("0", 1);
        sum("1", 1);
        sum("2", 2);
        sum("-1", 1);
        sum("-9999 * 9999", 1);
    }

    @Says(at = TERMS, value = "9 at most;")
    static void terms1_a_weight_is_9_at_most() {
        sum("8", 8);
        sum("9", 9);
        sum("10", 9);
        sum("9999 * 9999", 9);
    }

    @Says(at = TERMS, value = "without: 1).")
    static void terms1_without_a_weight_clause_a_weight_is_1() {
        due("without a text", new OneLetterWrong(2, 2).ways(0, 1, 1), 1);
        due("by an empty text", ruled(2, 2, "").ways(0, 1, 1), 1);
        due("by a text without weight", ruled(2, 2, "may 5 = 5; road 7 to 8;").ways(0, 1, 1), 1);
    }
}
