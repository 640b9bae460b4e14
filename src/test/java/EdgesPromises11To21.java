/** The edges of promises 11 to 21: what comes of what, odds, roads, the tree, near and apart. */
public final class EdgesPromises11To21 extends Edges {
    private EdgesPromises11To21() {
    }

    public static void main(String[] args) {
        run(EdgesPromises11To21.class);
    }

    /** Words of two letters of three, with a text of two roads that rules, and three words in the book. */
    private static OneLetterWrong some() {
        OneLetterWrong x = ruled(3, 2, "road 0 to 1; road 2 to 2;");
        x.put(0, 1);
        x.put(4, 2);
        x.put(8, 3);
        return x;
    }

    // promise 11

    @Says(at = "Promise 11: bars", value = "BARS.")
    static void promise11_bars_at_the_ends_of_words_and_hands() {
        OneLetterWrong x = new OneLetterWrong(2, 8);
        due("the first into the last by eight", x.bars(0, 255, 8), 0);
        due("the last into the first by eight", x.bars(255, 0, 8), 0);
        due("by seven", x.bars(255, 0, 7), 1);
        due("the last into itself by none", x.bars(255, 255, 0), 0);
        OneLetterWrong y = ruled(2, 8, "may place = hand;");
        due("each hand its place", y.bars(255, 0, 8), 0);
        due("hand 0 can't do the last place", y.bars(0, 1, 1), 2);
    }

    @Says(at = "Promise 11: bars", value = "NONE for others.")
    static void promise11_none_for_others() {
        OneLetterWrong x = some();
        others("bars from", x, NONE, w -> x.bars(w, 0, 1), -1, 9);
        others("bars into", x, NONE, w -> x.bars(0, w, 1), -1, 9);
        others("bars by", x, NONE, n -> x.bars(0, 0, n), -1, 9);
        due("even if into is like from", x.bars(9, 9, 0), NONE);
        due("even if both are -1", x.bars(-1, -1, 0), NONE);
    }

    // promise 12

    @Says(at = "Promise 12: ways", value = "WAYS.")
    static void promise12_ways_at_the_ends_of_words_and_hands() {
        OneLetterWrong x = new OneLetterWrong(2, 8);
        due("8!", x.ways(255, 0, 8), 40320);
        due("it can't come", x.ways(255, 0, 7), 0);
        due("by none", x.ways(255, 255, 0), 1);
        due("above what an int holds", ruled(2, 8, "weight 9;").ways(255, 0, 8), 1735643790720L);
        due("the vow lets nothing", ruled(2, 8, "may 1=2;").ways(0, 1, 1), 0);
    }

    @Says(at = "Promise 12: ways", value = "NONE for others.")
    static void promise12_none_for_others() {
        OneLetterWrong x = some();
        others("ways from", x, NONE, w -> x.ways(w, 0, 1), -1, 9);
        others("ways into", x, NONE, w -> x.ways(0, w, 1), -1, 9);
        others("ways by", x, NONE, n -> x.ways(0, 0, n), -1, 9);
        due("even if into is like from", x.ways(9, 9, 0), NONE);
    }

    // promise 13

    @Says(at = "Promise 13: row", value = "ROW: what HAND i does: 10 times the PLACE and the letter.")
    static void promise13_a_row_tells_place_and_letter() {
        OneLetterWrong x = new OneLetterWrong(2, 8);
        due("all eight places", rowOf(x, 0, 255, 8), 1, 11, 21, 31, 41, 51, 61, 71);
        due("and back", rowOf(x, 255, 0, 8), 0, 10, 20, 30, 40, 50, 60, 70);
        OneLetterWrong y = new OneLetterWrong(5, 3);
        due("the greatest letter at each place", rowOf(y, 0, 124, 3), 4, 14, 24);
    }

    @Says(at = "Promise 13: row", value = "NONE: it can't COME,")
    static void promise13_none_if_it_cannot_come() {
        OneLetterWrong x = some();
        due("two places by one", x.row(0, 4, 1, 0), NONE);
        due("itself by one", x.row(4, 4, 1, 0), NONE);
        OneLetterWrong y = ruled(3, 2, "may hand < 2;");
        due("the third hand may do nothing", rowOf(y, 0, 0, 3), NONE, NONE, NONE);
        due("by two it can", rowOf(y, 0, 0, 2), 1, 0);
    }

    @Says(at = "Promise 13: row", value = "there is none such,")
    static void promise13_none_if_there_is_no_such_hand() {
        OneLetterWrong x = some();
        due("hand 0 of none", x.row(0, 0, 0, 0), NONE);
        due("hand 1 of one", x.row(0, 1, 1, 1), NONE);
        due("hand 0 of one", x.row(0, 1, 1, 0), 11);
        due("hand 8 of eight", x.row(0, 0, 8, 8), NONE);
        due("hand 7 of eight", x.row(0, 0, 8, 7), 0);
        others("row, hand", x, NONE, i -> x.row(0, 1, 1, i), -1, 1, 2);
    }

    @Says(at = "Promise 13: row", value = "and for others.")
    static void promise13_none_for_others() {
        OneLetterWrong x = some();
        others("row from", x, NONE, w -> x.row(w, 0, 1, 0), -1, 9);
        others("row into", x, NONE, w -> x.row(0, w, 1, 0), -1, 9);
        others("row by", x, NONE, n -> x.row(0, 0, n, 0), -1, 9);
    }

    // promise 14

    @Says(at = "Promise 14: heard", value = "HEARD: how many (i NONE),")
    static void promise14_none_asks_how_many() {
        OneLetterWrong x = new OneLetterWrong(2, 8);
        int[] many = {1, 8, 29, 64, 99, 120, 127, 128, 128};
        for (int n = 0; n <= 8; n++) {
            // choose n, n - 2, .. of eight places
            due("by " + n, x.heard(0, n, NONE), many[n]);
        }
        due("none", ruled(2, 8, "may 1=2;").heard(0, 1, NONE), 0);
    }

    @Says(at = "Promise 14: heard", value = "the i-th by number.")
    static void promise14_the_ith_by_number_from_0() {
        OneLetterWrong x = new OneLetterWrong(2, 8);
        due("the least", x.heard(255, 1, 0), 127);
        due("the greatest", x.heard(255, 1, 7), 254);
        due("all", hears(x, 255, 1), 127, 191, 223, 239, 247, 251, 253, 254);
        due("the last word is heard too", x.heard(255, 0, 0), 255);
    }

    @Says(at = "Promise 14: heard", value = "NONE if there is none such,")
    static void promise14_none_if_there_is_none_such() {
        OneLetterWrong x = some();
        due("4 of four", x.heard(0, 1, 4), NONE);
        due("3 of four", x.heard(0, 1, 3), 6);
        due("1 of one", x.heard(0, 0, 1), NONE);
        due("0 of none", ruled(3, 2, "may 1=2;").heard(0, 1, 0), NONE);
        due("9 of nine", x.heard(0, 8, 9), NONE);
        due("8 of nine", x.heard(0, 8, 8), 8);
        others("heard, the i-th", x, NONE, i -> x.heard(0, 1, i), -2, 4, 5);
    }

    @Says(at = "Promise 14: heard", value = "and for others.")
    static void promise14_none_for_others() {
        OneLetterWrong x = some();
        others("heard of", x, NONE, w -> x.heard(w, 1, NONE), -1, 9);
        others("heard of, the first", x, NONE, w -> x.heard(w, 0, 0), -1, 9);
        others("heard by", x, NONE, n -> x.heard(0, n, NONE), -1, 9);
        others("heard by, the first", x, NONE, n -> x.heard(0, n, 0), -1, 9);
    }

    // promise 15

    @Says(at = "Promise 15: odds", value = "ODDS of the k-th WORD of THE BOOK, a word being HEARD: the upper (0), the lower one (1).")
    static void promise15_upper_and_lower_of_each_word() {
        OneLetterWrong x = some();
        // 1 is one place from 0 and from 4: priors 1 and 2; it isn't from 8
        due("word 0", new long[] {x.odds(1, 1, 0, 0), x.odds(1, 1, 0, 1)}, 1, 3);
        due("word 1", new long[] {x.odds(1, 1, 1, 0), x.odds(1, 1, 1, 1)}, 2, 3);
        due("word 2", new long[] {x.odds(1, 1, 2, 0), x.odds(1, 1, 2, 1)}, 0, 1);
        due("by none", new long[] {x.odds(8, 0, 2, 0), x.odds(8, 0, 2, 1)}, 1, 1);
        OneLetterWrong y = new OneLetterWrong(2, 6);
        for (int w = 0; w < 40; w++) {
            y.put(w, 1 + w % 9);
        }
        due("the last of 40 by none", new long[] {y.odds(39, 0, 39, 0), y.odds(39, 0, 39, 1)}, 1, 1);
        // one place from 38: 39 (prior 4), 36 (1), 34 (8), 6 (7); 46 and 54 aren't there
        due("39 of those one place from 38", new long[] {y.odds(38, 1, 39, 0), y.odds(38, 1, 39, 1)}, 1, 5);
    }

    @Says(at = "Promise 15: odds", value = "NONE for others,")
    static void promise15_none_for_others() {
        OneLetterWrong x = some();
        others("odds of", x, NONE, w -> x.odds(w, 1, 0, 0), -1, 9);
        others("odds by", x, NONE, n -> x.odds(1, n, 0, 0), -1, 9);
        others("odds, the k-th", x, NONE, k -> x.odds(1, 1, k, 0), -1, 3);
        others("odds, what", x, NONE, what -> x.odds(1, 1, 0, what), -1, 2);
    }

    @Says(at = "Promise 15: odds", value = "NONE for others,")
    static void promise15_none_for_a_word_that_is_not_in_the_book() {
        OneLetterWrong x = new OneLetterWrong(3, 2);
        due("the first of none", x.odds(0, 0, 0, 0), NONE);
        x.put(0, 1);
        due("the first of one", x.odds(0, 0, 0, 0), 1);
        due("the second of one", x.odds(0, 0, 1, 0), NONE);
        x.take(0);
        due("when it was taken out", x.odds(0, 0, 0, 0), NONE);
    }

    @Says(at = "Promise 15: odds", value = "and if it can COME of none.")
    static void promise15_none_if_it_can_come_of_none() {
        OneLetterWrong x = some();
        due("1 by none", new long[] {x.odds(1, 0, 0, 0), x.odds(1, 0, 0, 1)}, NONE, NONE);
        due("8 by none can", new long[] {x.odds(8, 0, 0, 0), x.odds(8, 0, 0, 1)}, 0, 1);
        OneLetterWrong y = ruled(3, 2, "may into = 2;");
        y.put(0, 9);
        due("b by the vow", new long[] {y.odds(1, 1, 0, 0), y.odds(1, 1, 0, 1)}, NONE, NONE);
        due("c by the vow", new long[] {y.odds(2, 1, 0, 0), y.odds(2, 1, 0, 1)}, 1, 1);
    }

    // promise 16

    @Says(at = "Promise 16: road", value = "Whether a WORD can COME of another one BY A ROAD.")
    static void promise16_by_each_number_of_the_road_from_hand_0_on() {
        OneLetterWrong x = ruled(2, 8, "may place = hand; road 0 to 8; road 7 to 8; road 8 to 8; road 0 to 0;");
        int[] behind = {0, 128, 192, 224, 240, 248, 252, 254, 255};
        for (int n = 0; n <= 8; n++) {
            due("0 to 8 by " + n, x.road(0, behind[n], 0), true);
            due("7 to 8 by " + n, x.road(0, behind[n], 1), n >= 7);
            due("8 to 8 by " + n, x.road(0, behind[n], 2), n == 8);
            due("0 to 0 by " + n, x.road(0, behind[n], 3), n == 0);
        }
        due("no row leads there", x.road(0, 1, 0), false);
        due("the other way", x.road(255, 0, 2), true);
    }

    @Says(at = "Promise 16: road", value = "False for others.")
    static void promise16_false_for_others() {
        OneLetterWrong x = some();
        others("road from", x, 0, w -> bit(x.road(w, 0, 0)), -1, 9);
        others("road into", x, 0, w -> bit(x.road(0, w, 0)), -1, 9);
        others("road", x, 0, r -> bit(x.road(0, 0, r)), -1, 2, 3);
        due("road 1 is one", x.road(0, 0, 1), true);
        due("even if both are like", x.road(9, 9, 0), false);
    }

    @Says(at = "Promise 16: road", value = "False for others.")
    static void promise16_false_without_a_text_that_rules() {
        OneLetterWrong x = new OneLetterWrong(3, 2);
        due("without texts", x.road(0, 0, 0), false);
        Tape.read(x, "road 0 to 8;");
        Tape.read(x, "may 1=1;");
        due("without one told", x.road(0, 0, 0), false);
        x.by(1);
        due("by one without roads", x.road(0, 0, 0), false);
        x.by(0);
        due("by one with a road", x.road(0, 0, 0), true);
        x.by(NONE);
        due("none again", x.road(0, 0, 0), false);
    }

    @Says(at = "Promise 16: road", value = "Whether a WORD can COME of another one BY A ROAD.")
    static void promise16_the_24th_road() {
        OneLetterWrong x = ruled(3, 2, "road 1 to 1;".repeat(23) + "road 0 to 0;");
        due("the 23rd", x.road(0, 0, 22), false);
        due("the 24th", x.road(0, 0, 23), true);
        due("the 25th", x.road(0, 0, 24), false);
    }

    // promise 17

    @Says(at = "Promise 17: fits", value = "FITS (a word by one ROAD, another by another): how many (i NONE),")
    static void promise17_none_asks_how_many() {
        OneLetterWrong x = some();
        due("aa or one place from it, twice", x.fits(0, 0, 0, 0, NONE), 1);
        due("one place from ab, and two hands from ac: aa and bb", x.fits(1, 0, 2, 1, NONE), 2);
        due("none", x.fits(0, 0, 8, 0, NONE), 0);
        OneLetterWrong y = ruled(3, 2, "road 0 to 8;");
        due("of an empty book", y.fits(0, 0, 0, 0, NONE), 0);
        putFirst(y, 9);
        due("all", y.fits(0, 0, 8, 0, NONE), 9);
    }

    @Says(at = "Promise 17: fits", value = "FITS (a word by one ROAD, another by another): how many (i NONE),")
    static void promise17_of_a_full_book() {
        OneLetterWrong x = ruled(2, 6, "road 0 to 8; road 0 to 0;");
        for (int i = 0; i < 40; i++) {
            x.put(63 - i, 1);
        }
        due("all of 40", x.fits(0, 0, 0, 0, NONE), 40);
        due("the last of 40", x.fits(0, 0, 0, 0, 39), 24);
        due("the 40th word alone", x.fits(24, 1, 24, 1, NONE), 1);
        due("it", x.fits(24, 1, 24, 1, 0), 24);
        due("the 33rd word", x.fits(31, 1, 31, 1, 0), 31);
    }

    @Says(at = "Promise 17: fits", value = "the i-th WORD (in THE BOOK's order).")
    static void promise17_the_ith_in_the_order_of_the_book() {
        OneLetterWrong x = some();
        x.take(0);
        x.put(0, 1);
        // the book is bb, cc, aa
        due("the first", x.fits(1, 0, 2, 1, 0), 4);
        due("the second", x.fits(1, 0, 2, 1, 1), 0);
    }

    @Says(at = "Promise 17: fits", value = "NONE if there is none such,")
    static void promise17_none_if_there_is_none_such() {
        OneLetterWrong x = some();
        due("2 of two", x.fits(1, 0, 2, 1, 2), NONE);
        due("1 of two", x.fits(1, 0, 2, 1, 1), 4);
        due("0 of none", x.fits(0, 0, 8, 0, 0), NONE);
        others("fits, the i-th", x, NONE, i -> x.fits(1, 0, 2, 1, i), -2, 2, 3);
    }

    @Says(at = "Promise 17: fits", value = "and for others.")
    static void promise17_none_for_others() {
        OneLetterWrong x = some();
        others("fits one", x, NONE, w -> x.fits(w, 0, 2, 1, NONE), -1, 9);
        others("fits by a road", x, NONE, r -> x.fits(1, r, 2, 1, NONE), -1, 2);
        others("fits another", x, NONE, w -> x.fits(1, 0, w, 1, NONE), -1, 9);
        others("fits by another", x, NONE, r -> x.fits(1, 0, 2, r, NONE), -1, 2);
    }

    @Says(at = "Promise 17: fits", value = "and for others.")
    static void promise17_none_without_a_text_that_rules() {
        OneLetterWrong x = some();
        x.by(NONE);
        due("how many", x.fits(0, 0, 0, 0, NONE), NONE);
        due("the first", x.fits(0, 0, 0, 0, 0), NONE);
        Tape.read(x, "may 1=1;");
        x.by(1);
        due("by one without roads", x.fits(0, 0, 0, 0, NONE), NONE);
    }

    // promise 18

    @Says(at = "Promise 18: tree", value = "TREE: 0 NODES, 1 ARCS.")
    static void promise18_nodes_and_arcs_of_empty_and_full_books() {
        OneLetterWrong x = new OneLetterWrong(2, 6);
        due("of none", new long[] {x.tree(0), x.tree(1)}, 0, 0);
        putFirst(x, 32);
        due("all that begin with a", new long[] {x.tree(0), x.tree(1)}, 7, 1 + 5 * 2);
        for (int w = 32; w < 40; w++) {
            x.put(w, 1);
        }
        // b has baa alone: a node for b, one for ba; behind three letters all is as behind a
        due("40", new long[] {x.tree(0), x.tree(1)}, 1 + 2 + 2 + 1 + 1 + 1 + 1, 2 + 3 + 3 + 2 + 2 + 2);
    }

    @Says(at = "Promise 18: tree", value = "NONE for others.")
    static void promise18_none_for_others() {
        OneLetterWrong x = some();
        others("tree", x, NONE, x::tree, -1, 2, 3);
    }

    // promise 19

    @Says(at = "Promise 19: shares", value = "Whether the first k letters (0 .. L)")
    static void promise19_k_is_0_to_L() {
        OneLetterWrong x = some();
        due("no letters", x.shares(0, 1, 0), true);
        due("one letter", x.shares(0, 1, 1), false);
        due("whole words", x.shares(0, 1, 2), true);
        others("shares, letters", x, 0, k -> bit(x.shares(0, 0, k)), -1, 3);
        OneLetterWrong y = new OneLetterWrong(2, 8);
        putAll(y, 0, 255);
        for (int k = 0; k <= 8; k++) {
            due(k + " of eight letters", y.shares(0, 1, k), k == 0 || k == 8);
        }
    }

    @Says(at = "Promise 19: shares", value = "of two WORDS of THE BOOK (by its order)")
    static void promise19_words_go_by_the_order_of_the_book() {
        OneLetterWrong x = new OneLetterWrong(2, 2);
        putAll(x, word(2, "bb"), word(2, "aa"), word(2, "ab"));
        due("b and a", x.shares(0, 1, 1), false);
        due("a and a", x.shares(1, 2, 1), true);
        due("a and b", x.shares(2, 0, 1), false);
        due("one and itself", x.shares(0, 0, 1), true);
        x.take(word(2, "bb"));
        due("a and a are the first two now", x.shares(0, 1, 1), true);
    }

    @Says(at = "Promise 19: shares", value = "lead to one NODE.")
    static void promise19_one_node_if_the_ends_are_the_same() {
        OneLetterWrong x = new OneLetterWrong(2, 3);
        putAll(x, word(2, "aaa"), word(2, "bba"), word(2, "bbb"));
        due("aa has a, bb has a and b", x.shares(0, 1, 2), false);
        x.put(word(2, "aab"), 1);
        due("both have a and b", x.shares(0, 1, 2), true);
        due("a goes on by a, b by b", x.shares(0, 1, 1), false);
        x.put(word(2, "aba"), 1);
        x.put(word(2, "abb"), 1);
        x.put(word(2, "baa"), 1);
        due("bab is missing", x.shares(0, 1, 1), false);
        x.put(word(2, "bab"), 1);
        due("all are there", x.shares(0, 1, 1), true);
    }

    @Says(at = "Promise 19: shares", value = "False for others.")
    static void promise19_false_for_others() {
        OneLetterWrong x = some();
        others("shares, the i-th", x, 0, i -> bit(x.shares(i, 0, 0)), -1, 3);
        others("shares, the j-th", x, 0, j -> bit(x.shares(0, j, 0)), -1, 3);
        others("shares, both", x, 0, i -> bit(x.shares(i, i, 0)), -1, 3);
        OneLetterWrong y = new OneLetterWrong(3, 2);
        due("of an empty book", y.shares(0, 0, 0), false);
        OneLetterWrong z = new OneLetterWrong(2, 6);
        putFirst(z, 40);
        due("the last of 40", z.shares(39, 0, 0), true);
        due("40 of 40", z.shares(40, 0, 0), false);
    }

    // promise 20

    @Says(at = "Promise 20: near", value = "NEAR (w 0 .. L):")
    static void promise20_w_is_0_to_L() {
        OneLetterWrong x = some();
        due("0", x.near(4, 0, NONE), 1);
        due("1", x.near(4, 1, NONE), 1);
        due("2", x.near(4, 2, NONE), 3);
        others("near, w", x, NONE, w -> x.near(4, w, NONE), -1, 3);
        OneLetterWrong y = new OneLetterWrong(2, 8);
        putAll(y, 0, 255);
        due("all but eight places", y.near(0, 7, NONE), 1);
        due("eight places", y.near(0, 8, NONE), 2);
        due("nine places", y.near(0, 9, NONE), NONE);
    }

    @Says(at = "Promise 20: near", value = "how many (i NONE), the i-th.")
    static void promise20_how_many_and_the_ith() {
        OneLetterWrong x = new OneLetterWrong(2, 6);
        due("of an empty book", x.near(0, 6, NONE), 0);
        for (int i = 0; i < 40; i++) {
            x.put(63 - i, 1);
        }
        due("of 40", x.near(0, 6, NONE), 40);
        due("the first", x.near(0, 6, 0), 63);
        due("the last", x.near(0, 6, 39), 24);
        due("none near enough", x.near(0, 1, NONE), 1);
        due("the only one", x.near(0, 1, 0), 32);
    }

    @Says(at = "Promise 20: near", value = "NONE if there is none such,")
    static void promise20_none_if_there_is_none_such() {
        OneLetterWrong x = some();
        due("1 of one", x.near(4, 0, 1), NONE);
        due("0 of one", x.near(4, 0, 0), 4);
        due("0 of none", x.near(5, 0, 0), NONE);
        due("3 of three", x.near(4, 2, 3), NONE);
        due("2 of three", x.near(4, 2, 2), 8);
        others("near, the i-th", x, NONE, i -> x.near(4, 2, i), -2, 3, 4);
    }

    @Says(at = "Promise 20: near", value = "and for others.")
    static void promise20_none_for_others() {
        OneLetterWrong x = some();
        others("near a word", x, NONE, w -> x.near(w, 2, NONE), -1, 9);
        others("near a word, the first", x, NONE, w -> x.near(w, 2, 0), -1, 9);
        others("near, w, the first", x, NONE, w -> x.near(0, w, 0), -1, 3);
    }

    // promise 21

    @Says(at = "Promise 21: apart", value = "APART.")
    static void promise21_apart_of_empty_and_full_books() {
        OneLetterWrong x = new OneLetterWrong(2, 8);
        due("of none", x.apart(8), 0);
        x.put(0, 1);
        due("of one", x.apart(8), 1);
        x.put(255, 1);
        due("unlike at eight places: by 3 none in common", x.apart(3), 3);
        due("by 4", x.apart(4), 1);
        x.put(254, 1);
        due("0 and 254, or 255 and 254", x.apart(4), 1 | 4);
        due("by 8", x.apart(8), 1 | 4);
        due("by none", x.apart(0), 7);
    }

    @Says(at = "Promise 21: apart", value = "NONE: THE BOOK has more than 16,")
    static void promise21_none_if_the_book_has_more_than_16() {
        OneLetterWrong x = new OneLetterWrong(2, 6);
        putFirst(x, 16);
        due("16", x.apart(0), 65535);
        x.put(16, 1);
        refused("17", x, NONE, () -> x.apart(0));
        for (int w = 17; w < 40; w++) {
            x.put(w, 1);
        }
        due("40", x.apart(1), NONE);
        for (int w = 16; w < 40; w++) {
            x.take(w);
        }
        due("16 again", x.apart(0), 65535);
    }

    @Says(at = "Promise 21: apart", value = "and for others.")
    static void promise21_none_for_others() {
        OneLetterWrong x = some();
        others("apart by", x, NONE, x::apart, -1, 9);
        due("eight", x.apart(8), 1);
        due("none", x.apart(0), 7);
    }
}
