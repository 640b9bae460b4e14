/** The edges of the third part of the terms: what comes of what, odds, roads, the tree, near and apart. */
public final class EdgesTerms3 extends Edges {
    private static final String TERMS = "Terms III";

    private EdgesTerms3() {
    }

    public static void main(String[] args) {
        run(EdgesTerms3.class);
    }

    @Says(at = TERMS, value = "A WORD can COME of another one by n HANDS (0 .. 8),")
    static void terms3_hands_are_0_to_8() {
        OneLetterWrong x = new OneLetterWrong(2, 2);
        x.put(0, 1);
        int[] some = {-1, 0, 8, 9};
        long[][] want = {{NONE, NONE, NONE, NONE, NONE}, {0, 1, 1, 1, 1}, {0, 128, 2, 1, 1}, {NONE, NONE, NONE, NONE, NONE}};
        for (int i = 0; i < some.length; i++) {
            int n = some[i];
            due("by " + n + " hands: bars, ways, heard, odds, apart",
                    new long[] {x.bars(0, 0, n), x.ways(0, 0, n), x.heard(0, n, NONE), x.odds(0, n, 0, 0), x.apart(n)},
                    want[i]);
        }
    }

    @Says(at = TERMS, value = "if there is a row of n changes, one by each HAND.")
    static void terms3_each_hand_changes_something() {
        OneLetterWrong x = new OneLetterWrong(2, 3);
        due("one place by one", x.bars(0, 1, 1), 0);
        due("not by two", x.bars(0, 1, 2), 1);
        due("by three", x.bars(0, 1, 3), 0);
        due("three places not by two", x.bars(0, 7, 2), 1);
        due("three places by three", x.bars(0, 7, 3), 0);
        OneLetterWrong y = new OneLetterWrong(3, 2);
        due("of three letters one place by two too", y.bars(0, 1, 2), 0);
    }

    @Says(at = TERMS, value = "(By 0: of itself.)")
    static void terms3_by_0_hands_a_word_comes_of_itself_alone() {
        OneLetterWrong[] all = {new OneLetterWrong(2, 3), ruled(2, 3, "may 1 = 2; weight 9;")};
        for (OneLetterWrong x : all) {
            due("itself", x.bars(5, 5, 0), 0);
            due("another one", x.bars(5, 4, 0), 1);
            due("one way, of no weight", x.ways(5, 5, 0), 1);
            due("no way", x.ways(5, 4, 0), 0);
            due("heard", hears(x, 5, 0), 5);
            due("no hand does anything", x.row(5, 5, 0, 0), NONE);
        }
    }

    @Says(at = TERMS, value = "WAYS: the WEIGHTS of a row's changes, one times the other,")
    static void terms3_weights_of_a_row_are_multiplied() {
        due("1 * 2 * 3 in each of 6 rows", ruled(2, 3, "weight place + 1;").ways(0, 7, 3), 36);
        due("9 eight times in each of 8! rows", ruled(2, 8, "weight 9;").ways(0, 255, 8), 40320L * 43046721L);
        OneLetterWrong x = ruled(3, 2, "weight into + 1;");
        due("b then c then a, c then b then a, at two places", x.ways(0, 0, 3), 24);
    }

    @Says(at = TERMS, value = "all rows together.")
    static void terms3_ways_are_added_up() {
        due("two orders", new OneLetterWrong(2, 3).ways(0, 3, 2), 2);
        due("two orders of 2 * 3", ruled(2, 3, "weight place + 1;").ways(0, 3, 2), 12);
        due("there and back at three places", ruled(2, 3, "weight place + 1;").ways(0, 0, 2), 1 + 4 + 9);
        due("none", new OneLetterWrong(2, 3).ways(0, 1, 2), 0);
        due("the vow's rows alone", ruled(2, 3, "may place = hand;").ways(0, 7, 3), 1);
        // (12^8 + 12 * 7^8 + 48 * 2^8 + 64 * 3^8) / 125 rows lead back to a word of three letters of five
        due("the most there can be", ruled(5, 3, "weight 9;").ways(0, 0, 8), 3996732L * 43046721L);
    }

    @Says(at = TERMS, value = "ROW: the first one: the least PLACE of HAND 0,")
    static void terms3_the_first_row_has_the_least_place_of_hand_0() {
        OneLetterWrong x = new OneLetterWrong(3, 2);
        due("place 0, then place 1", rowOf(x, word(3, "aa"), word(3, "cb"), 2), 2, 11);
        due("there and back at place 0", rowOf(x, word(3, "bb"), word(3, "bb"), 2), 0, 1);
        OneLetterWrong y = ruled(3, 2, "may place # 0 or hand = 1;");
        due("the least that the vow lets", rowOf(y, word(3, "aa"), word(3, "cb"), 2), 11, 2);
    }

    @Says(at = TERMS, value = "then letter,")
    static void terms3_then_the_first_row_has_the_least_letter() {
        OneLetterWrong x = new OneLetterWrong(3, 2);
        due("b at once, then back and again", rowOf(x, word(3, "aa"), word(3, "ba"), 3), 1, 0, 1);
        due("only by c", rowOf(x, word(3, "aa"), word(3, "ba"), 2), 2, 1);
        due("a rather than b", rowOf(x, word(3, "ca"), word(3, "ca"), 2), 0, 2);
        due("the greatest letter", rowOf(new OneLetterWrong(5, 3), 0, 4, 1), 24);
    }

    @Says(at = TERMS, value = "then those of HAND 1, .. .")
    static void terms3_then_the_first_row_has_the_least_of_hand_1() {
        OneLetterWrong x = new OneLetterWrong(2, 3);
        due("place 0 as often as can be", rowOf(x, 0, 1, 3), 1, 0, 21);
        due("each by its order", rowOf(x, 0, 7, 3), 1, 11, 21);
        due("eight hands", rowOf(x, 0, 0, 8), 1, 0, 1, 0, 1, 0, 1, 0);
        OneLetterWrong y = ruled(2, 3, "may place # last;");
        due("never the same place again", rowOf(y, 0, 0, 4), 1, 11, 0, 10);
        due("so place 0 comes again only behind another one", rowOf(y, 0, 1, 3), 1, 21, 0);
        OneLetterWrong z = ruled(2, 8, "may place = last - 1 or hand = 0 and place = 7;");
        due("one place after the other from the last one", rowOf(z, 0, 255, 8), 71, 61, 51, 41, 31, 21, 11, 1);
        due("and back", rowOf(z, 255, 0, 8), 70, 60, 50, 40, 30, 20, 10, 0);
    }

    @Says(at = TERMS, value = "BARS: 0: it can COME;")
    static void terms3_bars_0() {
        due("without a vow", new OneLetterWrong(2, 8).bars(0, 255, 8), 0);
        due("by the vow", ruled(2, 3, "may place = hand;").bars(0, 7, 3), 0);
        due("by none under a vow that lets nothing", ruled(2, 3, "may 1=2;").bars(6, 6, 0), 0);
    }

    @Says(at = TERMS, value = "1: not even if each HAND might change any letter;")
    static void terms3_bars_1() {
        OneLetterWrong two = new OneLetterWrong(2, 8);
        due("eight places by seven", two.bars(0, 255, 7), 1);
        due("two letters: back by an odd number", two.bars(9, 9, 3), 1);
        due("two letters: one place by an even number", two.bars(0, 1, 8), 1);
        OneLetterWrong three = new OneLetterWrong(3, 2);
        due("three letters: back by one", three.bars(4, 4, 1), 1);
        due("three letters: back by two", three.bars(4, 4, 2), 0);
        due("three letters: back by three", three.bars(4, 4, 3), 0);
        due("three letters: two places by one", three.bars(0, 4, 1), 1);
        due("three letters: one place by two", three.bars(0, 1, 2), 0);
        due("the vow bars it as well, but isn't why", ruled(3, 2, "may 1=2;").bars(0, 4, 1), 1);
    }

    @Says(at = TERMS, value = "2: by THE VOW alone.")
    static void terms3_bars_2() {
        OneLetterWrong x = ruled(3, 2, "may 1=2;");
        due("one place by one", x.bars(0, 1, 1), 2);
        due("two places by two", x.bars(0, 4, 2), 2);
        due("back by two", x.bars(0, 0, 2), 2);
        due("not even free", x.bars(0, 0, 1), 1);
        x.by(NONE);
        due("without it", x.bars(0, 1, 1), 0);
        OneLetterWrong y = ruled(2, 3, "may last = -1 or far = 1;");
        due("neighbours", y.bars(0, 3, 2), 0);
        due("no neighbours", y.bars(0, 5, 2), 2);
    }

    @Says(at = TERMS, value = "HEARD: how many WORDS can COME of one by n HANDS.")
    static void terms3_heard_counts_each_word_once() {
        OneLetterWrong x = new OneLetterWrong(2, 3);
        due("by one", hears(x, 0, 1), 1, 2, 4);
        due("by two", hears(x, 0, 2), 0, 3, 5, 6);
        due("by three", hears(x, 0, 3), 1, 2, 4, 7);
        due("all of five letters by two", new OneLetterWrong(5, 2).heard(0, 2, NONE), 25);
        due("all of five letters by eight", new OneLetterWrong(5, 3).heard(0, 8, NONE), 125);
        due("none", ruled(2, 3, "may 1=2;").heard(0, 1, NONE), 0);
        due("behind either place", hears(ruled(2, 2, "may place # last;"), 0, 3), 1, 2);
    }

    @Says(at = TERMS, value = "ODDS of a HEARD word by n HANDS: of a WORD of THE BOOK PRIOR times WAYS, by all these together,")
    static void terms3_odds_are_prior_times_ways_by_all_of_the_book() {
        OneLetterWrong x = new OneLetterWrong(2, 3);
        x.put(1, 2);
        x.put(2, 5);
        x.put(7, 9);
        due("2 of 7", new long[] {x.odds(0, 1, 0, 0), x.odds(0, 1, 0, 1)}, 2, 7);
        due("5 of 7", new long[] {x.odds(0, 1, 1, 0), x.odds(0, 1, 1, 1)}, 5, 7);
        // by three hands of 1 and of 2 in 7 ways, of 7 in 6: 14, 35 and 54
        due("14 of 103", new long[] {x.odds(0, 3, 0, 0), x.odds(0, 3, 0, 1)}, 14, 103);
        due("54 of 103", new long[] {x.odds(0, 3, 2, 0), x.odds(0, 3, 2, 1)}, 54, 103);
        OneLetterWrong y = ruled(2, 2, "may from = 1; weight place + 1;");
        y.put(0, 9);
        y.put(1, 1);
        y.put(2, 1);
        due("a can't become b: of 01 by weight 2", new long[] {y.odds(0, 1, 1, 0), y.odds(0, 1, 1, 1)}, 2, 3);
        due("of 10 by weight 1", new long[] {y.odds(0, 1, 2, 0), y.odds(0, 1, 2, 1)}, 1, 3);
    }

    @Says(at = TERMS, value = "in lowest terms.")
    static void terms3_odds_are_in_lowest_terms() {
        OneLetterWrong x = new OneLetterWrong(2, 3);
        x.put(1, 2);
        x.put(2, 4);
        x.put(7, 9);
        due("2 of 6", new long[] {x.odds(0, 1, 0, 0), x.odds(0, 1, 0, 1)}, 1, 3);
        due("4 of 6", new long[] {x.odds(0, 1, 1, 0), x.odds(0, 1, 1, 1)}, 2, 3);
        due("0 of 6 is 0 by 1", new long[] {x.odds(0, 1, 2, 0), x.odds(0, 1, 2, 1)}, 0, 1);
        due("9 of 9 is 1 by 1", new long[] {x.odds(7, 0, 2, 0), x.odds(7, 0, 2, 1)}, 1, 1);
        OneLetterWrong y = ruled(2, 8, "weight 9;");
        y.put(0, 9);
        y.put(3, 9);
        // 1 is unlike both at one place, so the ways are as many, each of the weight 9 ^ 7
        due("great ones too", new long[] {y.odds(1, 7, 0, 0), y.odds(1, 7, 0, 1)}, 1, 2);
    }

    @Says(at = TERMS, value = "BY A ROAD: by some number of its HANDS.")
    static void terms3_by_a_road_means_by_one_of_its_numbers() {
        OneLetterWrong x = ruled(2, 3, "road 2 to 3; road 0 to 8; road 8 to 8; road 0 to 0;");
        due("by two", x.road(0, 3, 0), true);
        due("by three", x.road(0, 7, 0), true);
        due("by two of itself", x.road(0, 0, 0), true);
        due("any word by 0 to 8", x.road(0, 7, 1), true);
        due("itself by 0 to 8", x.road(5, 5, 1), true);
        due("an odd number of places not by 8", x.road(0, 7, 2), false);
        due("another one not by none", x.road(0, 1, 3), false);
        OneLetterWrong y = ruled(2, 3, "may hand = 0; road 0 to 8; road 2 to 8;");
        due("only by 1", y.road(0, 4, 0), true);
        due("two can't be", y.road(0, 0, 1), false);
    }

    @Says(at = TERMS, value = "FITS: WORDS of THE BOOK of which one word comes by one ROAD and another one by another.")
    static void terms3_fits_are_the_words_that_do_both() {
        OneLetterWrong x = ruled(2, 3, "may place = hand; road 0 to 1; road 2 to 3;");
        putAll(x, 7, 4, 0);
        due("baa by 0 to 1 and bba by 2 to 3: of aaa alone", x.fits(4, 0, 6, 1, NONE), 1);
        due("aaa", x.fits(4, 0, 6, 1, 0), 0);
        due("aaa twice by 0 to 1: of baa and aaa", x.fits(0, 0, 0, 0, NONE), 2);
        due("in the book's order baa", x.fits(0, 0, 0, 0, 0), 4);
        due("then aaa", x.fits(0, 0, 0, 0, 1), 0);
        due("one alone isn't enough", x.fits(4, 0, 4, 1, NONE), 0);
        due("of bbb by 1, and by 3", x.fits(3, 0, 0, 1, 0), 7);
    }

    @Says(at = TERMS, value = "TREE of THE BOOK: its beginnings (the empty one, .., whole WORDS),")
    static void terms3_beginnings_go_from_the_empty_one_to_whole_words() {
        for (int l = 2; l <= 8; l++) {
            OneLetterWrong x = new OneLetterWrong(2, l);
            x.put(1, 1);
            due("nodes of one word of " + l, x.tree(0), l + 1);
            due("arcs of one word of " + l, x.tree(1), l);
        }
    }

    @Says(at = TERMS, value = "two of them being one NODE if just the same ends make WORDS of them")
    static void terms3_beginnings_with_the_same_ends_are_one_node() {
        OneLetterWrong x = new OneLetterWrong(2, 2);
        putAll(x, 0, 3);
        due("aa, bb: a and b are two", x.tree(0), 4);
        x.put(1, 1);
        due("aa, bb, ab: a has one end more", x.tree(0), 4);
        x.put(2, 1);
        due("all: a and b are one", x.tree(0), 3);
        x.take(2);
        x.take(1);
        x.take(0);
        putAll(x, 0, 1);
        due("bb, aa, ab: in another order", x.tree(0), 4);
        OneLetterWrong y = new OneLetterWrong(2, 4);
        putAll(y, word(2, "aaba"), word(2, "abaa"), word(2, "abbb"), word(2, "baaa"));
        // behind two letters: aa has ba, ab has aa and bb, ba has aa; behind three: aab, aba, baa have a, abb has b
        due("nodes", y.tree(0), 1 + 2 + 3 + 2 + 1);
    }

    @Says(at = TERMS, value = "(none without WORDS):")
    static void terms3_without_words_there_are_no_nodes() {
        OneLetterWrong x = new OneLetterWrong(3, 3);
        due("nodes", x.tree(0), 0);
        due("arcs", x.tree(1), 0);
        x.put(0, 1);
        x.take(0);
        due("nodes when the last one was taken out", x.tree(0), 0);
        due("arcs likewise", x.tree(1), 0);
    }

    @Says(at = TERMS, value = "how many NODES, how many ARCS (from a NODE by a letter to a NODE).")
    static void terms3_arcs_count_by_node_and_letter() {
        OneLetterWrong x = new OneLetterWrong(2, 2);
        putAll(x, 0, 1);
        due("aa, ab: two letters lead from a to one node", new long[] {x.tree(0), x.tree(1)}, 3, 3);
        x.put(3, 1);
        due("aa, ab, bb", new long[] {x.tree(0), x.tree(1)}, 4, 5);
        x.take(1);
        due("aa, bb", new long[] {x.tree(0), x.tree(1)}, 4, 4);
        putAll(x, 1, 2);
        due("all", new long[] {x.tree(0), x.tree(1)}, 3, 4);
        OneLetterWrong y = new OneLetterWrong(5, 2);
        putFirst(y, 25);
        due("all of five letters", new long[] {y.tree(0), y.tree(1)}, 3, 10);
    }

    @Says(at = TERMS, value = "NEAR: WORDS of THE BOOK (in its order)")
    static void terms3_near_keeps_to_the_order_of_the_book() {
        OneLetterWrong x = new OneLetterWrong(2, 3);
        putAll(x, 7, 1, 0, 2);
        due("first", x.near(0, 1, 0), 1);
        due("second", x.near(0, 1, 1), 0);
        due("third", x.near(0, 1, 2), 2);
        due("words of the book alone", x.near(0, 1, NONE), 3);
    }

    @Says(at = TERMS, value = "that are unlike a WORD at w PLACES at most.")
    static void terms3_near_means_w_places_at_most() {
        OneLetterWrong x = new OneLetterWrong(3, 3);
        putAll(x, word(3, "aaa"), word(3, "aac"), word(3, "abc"), word(3, "bbc"));
        for (int w = 0; w <= 3; w++) {
            due("unlike aaa at " + w, x.near(0, w, NONE), w + 1);
        }
        due("one that isn't there itself", x.near(word(3, "ccc"), 0, NONE), 0);
        due("unlike at all places but the last", x.near(word(3, "ccc"), 2, NONE), 3);
    }

    @Says(at = TERMS, value = "APART for n HANDS (THE BOOK of 16 at most):")
    static void terms3_apart_takes_a_book_of_16_at_most() {
        OneLetterWrong x = new OneLetterWrong(2, 5);
        due("of none", x.apart(0), 0);
        putFirst(x, 16);
        due("of 16", x.apart(0), 65535);
        x.put(16, 1);
        due("of 17", x.apart(0), NONE);
        x.take(3);
        due("of 16 again", x.apart(0), 65535);
    }

    @Says(at = TERMS, value = "the greatest part of THE BOOK (bits by its order)")
    static void terms3_apart_has_bits_by_the_order_of_the_book() {
        OneLetterWrong x = new OneLetterWrong(2, 4);
        putAll(x, word(2, "aaaa"), word(2, "aabb"), word(2, "bbbb"));
        due("the first and the third", x.apart(1), 5);
        x.take(0);
        x.put(0, 1);
        due("aabb, bbbb, aaaa: the second and the third", x.apart(1), 6);
        OneLetterWrong y = new OneLetterWrong(2, 4);
        putFirst(y, 16);
        // two have a word in common just if they are unlike at two places: 6 and 9, and 7 and 8, are unlike at four
        due("four of 16", y.apart(1), 1 << 6 | 1 << 7 | 1 << 8 | 1 << 9);
    }

    @Says(at = TERMS, value = "no two of which have a word in common that can COME of both;")
    static void terms3_apart_looks_at_words_that_come_of_both() {
        OneLetterWrong x = new OneLetterWrong(2, 3);
        putAll(x, 0, 1, 3);
        due("unlike at one place: none in common", x.apart(1), 3);
        due("by none all", x.apart(0), 7);
        due("of one alone", ruledBook("may 1=1;", 0).apart(8), 1);
        due("what nothing comes of has none in common", ruledBook("may 1=2;", 0, 3, 5).apart(1), 7);
        due("by none they are themselves", ruledBook("may 1=2;", 0, 3, 5).apart(0), 7);
        due("by the vow: place 0 alone", ruledBook("may place = 0;", 0, 3, 4).apart(1), 7);
        due("by the vow: all become b", ruledBook("may into = 1;", 3, 5, 6).apart(1), 1);
        due("by the vow: all become a", ruledBook("may into = 0;", 1, 2, 4).apart(1), 1);
    }

    private static OneLetterWrong ruledBook(String text, int... words) {
        OneLetterWrong x = ruled(2, 3, text);
        putAll(x, words);
        return x;
    }

    @Says(at = TERMS, value = "of like ones the lowest bits.")
    static void terms3_of_like_parts_the_lowest_bits() {
        OneLetterWrong x = new OneLetterWrong(2, 4);
        putAll(x, word(2, "aaaa"), word(2, "aabb"), word(2, "bbaa"), word(2, "bbbb"));
        due("6 rather than 9", x.apart(1), 6);
        OneLetterWrong y = new OneLetterWrong(2, 2);
        putAll(y, 0, 3);
        due("1 rather than 2", y.apart(1), 1);
        putAll(y, 1, 2);
        due("of 0, 3 and of 1, 2 the first each", y.apart(1), 1 | 4);
    }
}
