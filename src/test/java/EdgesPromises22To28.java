/** The edges of promises 22 to 28: logs, messages, the image, what an object is about. */
public final class EdgesPromises22To28 extends Edges {
    private EdgesPromises22To28() {
    }

    public static void main(String[] args) {
        run(EdgesPromises22To28.class);
    }

    // promise 22

    @Says(at = "Promise 22: log", value = "THE LOG is of n HANDS,")
    static void promise22_a_log_of_0_to_8_hands() {
        OneLetterWrong x = new OneLetterWrong(2, 2);
        for (int n = 0; n <= 8; n++) {
            due("log of " + n, x.log(n), true);
            due("its hands", x.about(6), n);
            due("behind the last", x.said(n, 0, 0), 1);
            due("behind one more", x.said(n + 1, 0, 0), NONE);
        }
    }

    @Says(at = "Promise 22: log", value = "without anything told: true.")
    static void promise22_nothing_is_told_in_a_new_log() {
        OneLetterWrong x = new OneLetterWrong(2, 2);
        x.log(1);
        x.said(0, 0, 0);
        x.said(1, 0, 0);
        due("the same word: broken", x.broke(0, 0), 1);
        due("the same number of hands", x.log(1), true);
        due("nothing told", x.about(7), 0);
        due("nothing broken", x.broke(99, 0), 0);
        for (int i = 1; i <= 40; i++) {
            x.said(0, 0, 0);
        }
        due("full", x.said(0, 0, 0), NONE);
        x.log(1);
        due("room again", x.said(1, 0, 0), 1);
        due("what was told of the first word is gone", x.broke(99, 0), 0);
    }

    @Says(at = "Promise 22: log", value = "False for others.")
    static void promise22_false_for_others() {
        OneLetterWrong x = new OneLetterWrong(2, 2);
        x.log(1);
        x.said(0, 0, 0);
        x.said(1, 0, 0);
        others("log", x, 0, n -> bit(x.log(n)), -1, 9);
        due("what was told stays", x.about(7), 2);
    }

    // promise 23

    @Says(at = "Promise 23: said", value = "What was said behind so many HANDS (0 .. n):")
    static void promise23_behind_0_to_n_hands() {
        OneLetterWrong x = new OneLetterWrong(2, 2);
        x.log(8);
        for (int behind = 0; behind <= 8; behind++) {
            due("behind " + behind, x.said(behind, 0, 0), behind + 1);
        }
        others("behind", x, NONE, behind -> x.said(behind, 0, 0), -1, 9);
        x.log(3);
        others("behind, of three", x, NONE, behind -> x.said(behind, 0, 0), -1, 4, 8);
        OneLetterWrong y = new OneLetterWrong(2, 2);
        due("a new object's log has no hands", y.said(1, 0, 0), NONE);
        due("but what was said at first", y.said(0, 0, 0), 1);
    }

    @Says(at = "Promise 23: said", value = "told AT a TIME (word NONE: nothing):")
    static void promise23_a_word_or_nothing_at_a_time() {
        OneLetterWrong x = new OneLetterWrong(2, 2);
        x.log(1);
        x.said(0, 0, 0);
        due("a word AT 99", x.said(1, 0, 99), 2);
        due("as of 98", x.broke(98, 0), 0);
        due("as of 99", x.broke(99, 0), 1);
        due("nothing AT 99", x.said(1, NONE, 99), 3);
        due("as of 99 nothing is known", x.broke(99, 0), 0);
        due("the last word AT 0", x.said(1, 3, 0), 4);
        due("as of 0", x.broke(0, 0), 1);
        due("as of 99: told last", x.broke(99, 0), 1);
        due("nothing AT 0", x.said(1, NONE, 0), 5);
        due("as of 0 nothing is known", x.broke(0, 0), 0);
        due("as of 99 neither", x.broke(99, 0), 0);
    }

    @Says(at = "Promise 23: said", value = "how many were told.")
    static void promise23_answers_how_many_were_told() {
        OneLetterWrong x = new OneLetterWrong(2, 2);
        x.log(2);
        for (int i = 1; i <= 40; i++) {
            due("the " + i + "th", x.said(i % 3, i % 5 - 1, i), i);
            due("about", x.about(7), i);
        }
    }

    @Says(at = "Promise 23: said", value = "NONE for others,")
    static void promise23_none_for_others() {
        OneLetterWrong x = new OneLetterWrong(2, 2);
        x.log(1);
        x.said(0, 0, 0);
        others("said, the word", x, NONE, w -> x.said(1, w, 0), -2, 4);
        others("said, the time", x, NONE, time -> x.said(1, 0, time), -1, 100);
        others("said, the time of nothing", x, NONE, time -> x.said(1, NONE, time), -1, 100);
        others("said, the hand of nothing", x, NONE, behind -> x.said(behind, NONE, 0), -1, 2);
    }

    @Says(at = "Promise 23: said", value = "or if 40 were.")
    static void promise23_none_if_40_were_told() {
        OneLetterWrong x = new OneLetterWrong(2, 2);
        x.log(1);
        for (int i = 1; i <= 40; i++) {
            due("the " + i + "th", x.said(0, 0, 0), i);
        }
        refused("the 41st", x, NONE, () -> x.said(1, 0, 0));
        refused("nothing, as the 41st", x, NONE, () -> x.said(0, NONE, 0));
        due("the word behind isn't told", x.broke(99, 0), 0);
    }

    // promise 24

    @Says(at = "Promise 24: broke", value = "BROKE, AS OF a TIME: 0 how many, 1 which (bits).")
    static void promise24_how_many_and_which() {
        OneLetterWrong x = new OneLetterWrong(2, 2);
        due("of a new object", new long[] {x.broke(0, 0), x.broke(0, 1)}, 0, 0);
        x.log(8);
        due("nothing told", new long[] {x.broke(99, 0), x.broke(99, 1)}, 0, 0);
        for (int i = 0; i <= 8; i++) {
            x.said(i, 0, 10 * i);
            due("as of " + 10 * i, new long[] {x.broke(10 * i, 0), x.broke(10 * i, 1)}, i, (1 << i) - 1);
        }
        due("as of 79", new long[] {x.broke(79, 0), x.broke(79, 1)}, 7, 127);
        due("as of 99", new long[] {x.broke(99, 0), x.broke(99, 1)}, 8, 255);
        due("as of 0", new long[] {x.broke(0, 0), x.broke(0, 1)}, 0, 0);
    }

    @Says(at = "Promise 24: broke", value = "BROKE, AS OF a TIME: 0 how many, 1 which (bits).")
    static void promise24_by_the_vow_that_rules_now() {
        OneLetterWrong x = new OneLetterWrong(2, 2);
        Tape.read(x, "may place = 0;");
        x.log(1);
        x.said(0, 0, 0);
        x.said(1, 1, 0);
        due("without a vow", x.broke(0, 0), 0);
        x.by(0);
        due("by the vow", new long[] {x.broke(0, 0), x.broke(0, 1)}, 1, 1);
        x.by(NONE);
        due("without it again", x.broke(0, 0), 0);
    }

    @Says(at = "Promise 24: broke", value = "NONE for others.")
    static void promise24_none_for_others() {
        OneLetterWrong x = new OneLetterWrong(2, 2);
        x.log(1);
        x.said(0, 0, 0);
        x.said(1, 0, 0);
        others("broke, the time", x, NONE, time -> x.broke(time, 0), -1, 100);
        others("broke, the time, which", x, NONE, time -> x.broke(time, 1), -1, 100);
        others("broke, what", x, NONE, what -> x.broke(0, what), -1, 2);
        due("0 is a time", x.broke(0, 0), 1);
        due("99 is a time", x.broke(99, 0), 1);
    }

    // promise 25

    @Says(at = "Promise 25: message", value = "A MESSAGE: the WORD behind it.")
    static void promise25_the_word_behind_the_hands() {
        OneLetterWrong x = ruled(2, 8, "may place = hand and from = 0;");
        due("by one", x.message(0, 0, 1), 128);
        due("by eight", x.message(9999, 0, 8), 255);
        due("one that can't begin", x.message(0, 255, 8), 255);
        due("one that stops at place 3", x.message(0, 16, 8), 128 + 64 + 32 + 16);
        OneLetterWrong y = new OneLetterWrong(2, 3);
        due("X is 1 and then 264", y.message(0, 0, 2), word(2, "bba"));
        due("of the last word", y.message(0, 7, 2), word(2, "aab"));
    }

    @Says(at = "Promise 25: message", value = "NONE for others.")
    static void promise25_none_for_others() {
        OneLetterWrong x = new OneLetterWrong(2, 3);
        others("message, the seed", x, NONE, seed -> seed < 0 || seed > 9999 ? x.message(seed, 0, 1) : NONE, -1, 10000);
        others("message, the word", x, NONE, w -> x.message(0, w, 1), -1, 8);
        others("message, the hands", x, NONE, n -> x.message(0, 0, n), -1, 0, 9);
        due("seed 0", x.message(0, 0, 1), word(2, "aba"));
        due("seed 9999: 189982 mod 3 is 1", x.message(9999, 0, 1), word(2, "aba"));
    }

    // promise 26

    @Says(at = "Promise 26: image", value = "THE IMAGE is as all is now:")
    static void promise26_the_image_is_as_all_is_now() {
        OneLetterWrong x = new OneLetterWrong(2, 2);
        x.put(1, 4);
        x.image();
        x.put(2, 5);
        x.image();
        x.take(1);
        x.take(2);
        x.back();
        due("the later image counts", bookOf(x), 1, 2);
        due("its priors", new long[] {x.about(10), x.about(11)}, 4, 5);
        x.take(1);
        due("what changes later is no part of it", x.back(), 2);
    }

    @Says(at = "Promise 26: image", value = "how many WORDS THE BOOK has.")
    static void promise26_image_answers_how_many_words() {
        OneLetterWrong x = new OneLetterWrong(2, 6);
        due("of none", x.image(), 0);
        putFirst(x, 39);
        due("of 39", x.image(), 39);
        x.put(39, 1);
        due("of 40", x.image(), 40);
        x.take(0);
        due("of 39 again", x.image(), 39);
    }

    @Says(at = "Promise 26: image", value = "THE IMAGE is as all is now:")
    static void promise26_an_image_of_all_that_is_full() {
        OneLetterWrong x = new OneLetterWrong(2, 6);
        for (int w = 0; w < 40; w++) {
            x.put(w, 1 + w % 9);
        }
        for (int i = 0; i < 4; i++) {
            Tape.read(x, "may place = " + i + "; road 0 to " + i + ";");
        }
        x.by(3);
        x.log(8);
        x.said(0, 0, 0);
        for (int i = 0; i < 38; i++) {
            x.said(2, NONE, 0);
        }
        // the same word behind hand 0, the 40th told
        x.said(1, 0, 39);
        x.image();
        for (int w = 0; w < 40; w++) {
            x.take(39 - w);
            x.put(63 - w, 9);
        }
        x.by(0);
        x.log(1);
        for (int i = 0; i < 40; i++) {
            x.said(0, 4, 99);
        }
        due("back", x.back(), 40);
        due("the last word and its prior", new long[] {x.book(39), x.about(49)}, 39, 4);
        due("texts, the text, roads", new long[] {x.about(3), x.about(4), x.about(9)}, 4, 3, 1);
        due("the log", new long[] {x.about(6), x.about(7)}, 8, 40);
        due("the last one told", new long[] {x.broke(38, 1), x.broke(39, 1)}, 0, 1);
        due("the vow", x.bars(0, 4, 1), 0);
    }

    // promise 27

    @Says(at = "Promise 27: back", value = "BACK to THE IMAGE (it stays):")
    static void promise27_the_image_stays() {
        OneLetterWrong x = new OneLetterWrong(2, 2);
        x.put(3, 7);
        x.image();
        for (int i = 0; i < 3; i++) {
            x.take(3);
            due("another word", x.put(0, 1), 1);
            x.log(2);
            due("back once more", x.back(), 1);
            due("the word", new long[] {x.book(0), x.about(10), x.about(6)}, 3, 7, 0);
        }
        due("back without a change", x.back(), 1);
    }

    @Says(at = "Promise 27: back", value = "BACK to THE IMAGE (it stays):")
    static void promise27_texts_of_the_image_stay_as_they_were() {
        OneLetterWrong x = new OneLetterWrong(2, 2);
        Tape.read(x, "may place = 0; road 0 to 0;");
        x.image();
        Tape.read(x, "may place = 1; road 1 to 1; road 1 to 1;");
        x.by(1);
        due("text 1", new long[] {x.about(9), x.heard(0, 1, 0)}, 2, 1);
        x.back();
        due("one text", x.about(3), 1);
        due("text 1 is gone", x.by(1), false);
        due("another text 1", Tape.read(x, "may 1=2;"), 1);
        x.by(1);
        due("it rules", new long[] {x.about(9), x.heard(0, 1, NONE)}, 0, 0);
        x.back();
        due("a third text 1", Tape.read(x, "weight 3; may place = 1;"), 1);
        x.by(1);
        due("it rules by its own formulas", new long[] {x.ways(0, 1, 1), x.ways(0, 2, 1)}, 3, 0);
        x.by(0);
        due("text 0 is as it was", new long[] {x.about(9), x.heard(0, 1, 0)}, 1, 2);
    }

    @Says(at = "Promise 27: back", value = "how many WORDS THE BOOK has.")
    static void promise27_back_answers_how_many_words() {
        OneLetterWrong x = new OneLetterWrong(2, 6);
        putFirst(x, 40);
        due("to a new one", x.back(), 0);
        due("none there", x.book(NONE), 0);
        putFirst(x, 40);
        x.image();
        x.take(5);
        due("to 40", x.back(), 40);
        due("40 there", x.book(NONE), 40);
        due("full", x.put(50, 1), NONE);
    }

    // promise 28

    @Says(at = "Promise 28: about", value = {"0 A,", "1 L,", "2 N,"})
    static void promise28_0_to_2_are_the_size() {
        OneLetterWrong x = new OneLetterWrong(5, 9);
        due("0", x.about(0), 5);
        due("1", x.about(1), 3);
        due("2", x.about(2), 125);
    }

    @Says(at = "Promise 28: about", value = "3 TEXTS,")
    static void promise28_3_is_how_many_texts() {
        OneLetterWrong x = new OneLetterWrong(2, 2);
        for (int many = 0; many <= 4; many++) {
            due("texts", x.about(3), many);
            Tape.read(x, "may");
            due("a fault makes none", x.about(3), many);
            Tape.read(x, "");
        }
        due("a fifth there is none", x.about(3), 4);
    }

    @Says(at = "Promise 28: about", value = "4 THE TEXT (NONE),")
    static void promise28_4_is_the_text_or_none() {
        OneLetterWrong x = new OneLetterWrong(2, 2);
        due("at first", x.about(4), NONE);
        Tape.read(x, "");
        Tape.read(x, "");
        due("read, not told", x.about(4), NONE);
        x.by(1);
        due("told", x.about(4), 1);
        x.by(2);
        due("none such", x.about(4), 1);
        x.by(0);
        due("another", x.about(4), 0);
        x.by(NONE);
        due("none", x.about(4), NONE);
    }

    @Says(at = "Promise 28: about", value = "5 WORDS of THE BOOK,")
    static void promise28_5_is_how_many_words() {
        OneLetterWrong x = new OneLetterWrong(2, 6);
        due("none", x.about(5), 0);
        putFirst(x, 41);
        due("40 at most", x.about(5), 40);
        x.take(0);
        due("one less", x.about(5), 39);
    }

    @Says(at = "Promise 28: about", value = {"6 HANDS of THE LOG,", "7 how many were told,"})
    static void promise28_6_and_7_are_of_the_log() {
        OneLetterWrong x = new OneLetterWrong(2, 6);
        due("a new object's", new long[] {x.about(6), x.about(7)}, 0, 0);
        x.log(8);
        due("a log of eight", new long[] {x.about(6), x.about(7)}, 8, 0);
        for (int i = 0; i < 41; i++) {
            x.said(8, NONE, 99);
        }
        due("40 at most", new long[] {x.about(6), x.about(7)}, 8, 40);
        x.log(9);
        due("none such", new long[] {x.about(6), x.about(7)}, 8, 40);
        x.log(0);
        due("a log of none", new long[] {x.about(6), x.about(7)}, 0, 0);
    }

    @Says(at = "Promise 28: about", value = "8 bytes of the tape,")
    static void promise28_8_is_how_many_bytes() {
        OneLetterWrong x = new OneLetterWrong(2, 6);
        due("none", x.about(8), 0);
        for (int i = 1; i <= 15; i++) {
            x.feed(0, 0, 0, 0, 0);
            due("twenty more", x.about(8), 20 * i);
        }
        x.feed(0, 0, 0, 0, 0);
        due("300 at most", x.about(8), 300);
        x.end(299);
        due("299", x.about(8), 299);
        x.text();
        due("read", x.about(8), 0);
    }

    @Says(at = "Promise 28: about", value = "9 ROADS of THE TEXT (0 without),")
    static void promise28_9_is_how_many_roads() {
        OneLetterWrong x = new OneLetterWrong(2, 2);
        due("at first", x.about(9), 0);
        Tape.read(x, "road 0 to 0;".repeat(24));
        Tape.read(x, "weight 1;");
        due("none told", x.about(9), 0);
        x.by(0);
        due("24", x.about(9), 24);
        x.by(1);
        due("a text without roads", x.about(9), 0);
        x.by(0);
        x.by(NONE);
        due("without a text", x.about(9), 0);
    }

    @Says(at = "Promise 28: about", value = "10 + i: PRIOR of the i-th WORD.")
    static void promise28_10_and_above_are_priors() {
        OneLetterWrong x = new OneLetterWrong(2, 6);
        for (int i = 0; i < 40; i++) {
            due("not yet there", x.about(10 + i), -2);
            x.put(i, 1 + i % 9);
            due("prior " + i, x.about(10 + i), 1 + i % 9);
        }
        x.take(0);
        due("those behind come up", new long[] {x.about(10), x.about(48), x.about(49)}, 2, 4, -2);
    }

    @Says(at = "Promise 28: about", value = "-2 for others.")
    static void promise28_less_2_for_others() {
        OneLetterWrong x = new OneLetterWrong(2, 6);
        others("about, without words", x, -2, x::about, -1, -2, 10, 11, 49, 50);
        putFirst(x, 3);
        others("about, with three", x, -2, x::about, -1, -2, 13, 14);
        OneLetterWrong y = new OneLetterWrong(2, 6);
        putFirst(y, 40);
        others("about, with 40", y, -2, y::about, -1, 50, 51);
        due("the last of 40", y.about(49), 1);
    }
}
