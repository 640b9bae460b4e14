/** The edges of the fourth part of the terms: logs, who broke the vow, messages, the image. */
public final class EdgesTerms4 extends Edges {
    private static final String TERMS = "Terms IV";

    private EdgesTerms4() {
    }

    public static void main(String[] args) {
        run(EdgesTerms4.class);
    }

    /** Tells one word behind the other from the first on, AT 0. */
    private static OneLetterWrong logged(OneLetterWrong x, int... words) {
        x.log(words.length - 1);
        for (int i = 0; i < words.length; i++) {
            x.said(i, words[i], 0);
        }
        return x;
    }

    private static void broke(String what, OneLetterWrong x, int time, int many, int bits) {
        due(what, new long[] {x.broke(time, 0), x.broke(time, 1)}, many, bits);
    }

    // logs

    @Says(at = TERMS, value = "A LOG of n HANDS (0 .. 8):")
    static void terms4_a_log_has_0_to_8_hands() {
        OneLetterWrong x = new OneLetterWrong(2, 2);
        due("8", x.log(8), true);
        due("9", x.log(9), false);
        due("8 still", x.about(6), 8);
        due("0", x.log(0), true);
        due("-1", x.log(-1), false);
        due("0 still", x.about(6), 0);
    }

    @Says(at = TERMS, value = "what was said at first (0) and behind each HAND (1 .. n):")
    static void terms4_said_at_first_and_behind_each_hand() {
        OneLetterWrong x = new OneLetterWrong(2, 2);
        x.log(2);
        due("-1", x.said(-1, 0, 0), NONE);
        due("at first", x.said(0, 0, 0), 1);
        due("behind both", x.said(2, 0, 0), 2);
        due("behind three", x.said(3, 0, 0), NONE);
        broke("there and back", x, 0, 0, 0);
        x.said(1, 0, 0);
        broke("behind the first: the same, so both broke it", x, 0, 2, 3);
    }

    @Says(at = TERMS, value = "WORDS as told, each AT a TIME (0 .. 99),")
    static void terms4_times_are_0_to_99() {
        OneLetterWrong x = new OneLetterWrong(2, 2);
        x.log(1);
        due("-1", x.said(0, 0, -1), NONE);
        due("100", x.said(0, 0, 100), NONE);
        due("0", x.said(0, 0, 0), 1);
        due("99", x.said(1, 0, 99), 2);
        broke("as of 98", x, 98, 0, 0);
        broke("as of 99", x, 99, 1, 1);
        due("as of 100", x.broke(100, 0), NONE);
        due("as of -1", x.broke(-1, 0), NONE);
    }

    @Says(at = TERMS, value = "or nothing;")
    static void terms4_nothing_can_be_told_too() {
        OneLetterWrong x = logged(new OneLetterWrong(2, 2), 0, 0);
        broke("the same word", x, 5, 1, 1);
        due("nothing behind it, AT 5", x.said(1, NONE, 5), 3);
        broke("as of 4 it was told", x, 4, 1, 1);
        broke("as of 5 nothing is known of it", x, 5, 0, 0);
        due("the same again, AT 6", x.said(1, 0, 6), 4);
        broke("as of 6 it is told again", x, 6, 1, 1);
        broke("as of 5 not", x, 5, 0, 0);
    }

    @Says(at = TERMS, value = "AS OF a TIME: of what was told AT it or ahead")
    static void terms4_as_of_counts_what_was_told_at_it_or_ahead() {
        OneLetterWrong x = new OneLetterWrong(2, 2);
        x.log(1);
        x.said(0, 0, 50);
        x.said(1, 3, 60);
        broke("as of 0", x, 0, 0, 0);
        broke("as of 59", x, 59, 0, 0);
        broke("as of 60", x, 60, 1, 1);
        broke("as of 99", x, 99, 1, 1);
        x.said(1, 1, 61);
        broke("as of 60 still", x, 60, 1, 1);
        broke("as of 61 another word", x, 61, 0, 0);
    }

    @Says(at = TERMS, value = "the last one told")
    static void terms4_the_last_one_told_counts_whatever_its_time() {
        OneLetterWrong x = new OneLetterWrong(2, 2);
        x.log(1);
        x.said(0, 0, 0);
        x.said(1, 3, 50);
        broke("11 AT 50", x, 99, 1, 1);
        x.said(1, 1, 20);
        broke("then 01 AT 20: as of 99 it was told last", x, 99, 0, 0);
        broke("as of 20", x, 20, 0, 0);
        x.said(1, 0, 20);
        broke("then 00 at the same time", x, 20, 1, 1);
        x.said(0, 1, 99);
        broke("the first word as of 99", x, 99, 0, 0);
        broke("but not as of 98", x, 98, 1, 1);
    }

    @Says(at = TERMS, value = "(40 at most).")
    static void terms4_40_are_told_at_most() {
        OneLetterWrong x = new OneLetterWrong(2, 2);
        x.log(1);
        for (int i = 1; i <= 39; i++) {
            due("told", x.said(0, 0, 0), i);
        }
        due("the 40th counts", x.said(1, 3, 0), 40);
        broke("as told", x, 0, 1, 1);
        due("the 41st", x.said(1, 1, 0), NONE);
        due("nor nothing", x.said(1, NONE, 0), NONE);
        broke("it doesn't count", x, 0, 1, 1);
        x.log(1);
        due("a new log has room", x.said(1, 1, 0), 1);
    }

    // who broke the vow

    @Says(at = TERMS, value = "BROKE: the fewest HANDS that broke THE VOW")
    static void terms4_the_fewest_hands() {
        broke("none", logged(new OneLetterWrong(2, 2), 0, 1, 3, 2, 0, 1, 3, 2, 0), 0, 0, 0);
        broke("all eight", logged(new OneLetterWrong(2, 2), 0, 0, 0, 0, 0, 0, 0, 0, 0), 0, 8, 255);
        broke("hand 7 alone", logged(new OneLetterWrong(2, 2), 0, 1, 3, 2, 0, 1, 3, 2, 2), 0, 1, 128);
        broke("hands 0 and 2", logged(new OneLetterWrong(2, 2), 0, 3, 1, 2, 0), 0, 2, 5);
        OneLetterWrong x = ruled(2, 2, "may 1=2;");
        x.log(8);
        broke("a vow that lets nothing is broken by all", x, 0, 8, 255);
        x.log(0);
        broke("without hands by none", x, 0, 0, 0);
    }

    @Says(at = TERMS, value = "(such a one says any WORD;")
    static void terms4_who_broke_it_says_any_word() {
        broke("the same", logged(new OneLetterWrong(2, 8), 9, 9), 0, 1, 1);
        broke("all letters another", logged(new OneLetterWrong(2, 8), 0, 255), 0, 1, 1);
        OneLetterWrong x = new OneLetterWrong(2, 8);
        x.log(2);
        x.said(0, 0, 0);
        x.said(2, 255, 0);
        broke("one is enough, whatever lies between", x, 0, 1, 1);
    }

    @Says(at = TERMS, value = "behind it last is -1)")
    static void terms4_behind_who_broke_it_last_is_less_1() {
        OneLetterWrong x = ruled(2, 3, "may last = -1;");
        x.log(3);
        broke("hand 1 alone: so hands 0 and 2 have none ahead", x, 0, 1, 2);
        x.log(4);
        broke("hands 0 and 2", x, 0, 2, 5);
        OneLetterWrong y = ruled(2, 3, "may far = 0 and hand # 0;");
        broke("far is 0 there too", logged(y, 0, 0, 1), 0, 1, 1);
        OneLetterWrong z = ruled(2, 3, "may last # -1 or hand = 0;");
        broke("the next one has none ahead, and may do nothing", logged(z, 0, 3, 2), 0, 2, 3);
    }

    @Says(at = TERMS, value = "so that all told AS OF a TIME can be;")
    static void terms4_any_place_that_the_hand_ahead_can_have_changed_will_do() {
        for (int end = 1; end <= 2; end++) {
            OneLetterWrong x = ruled(2, 2, "may place # last;");
            x.log(3);
            x.said(0, 0, 0);
            x.said(2, 3, 0);
            x.said(3, end, 0);
            broke("aa, .., bb, then " + end, x, 0, 0, 0);
        }
        OneLetterWrong y = ruled(2, 8, "may place = last - 1 or hand = 0 and place = 7;");
        y.log(8);
        y.said(0, 0, 0);
        y.said(8, 255, 0);
        broke("one place after the other from the last one", y, 0, 0, 0);
        y.said(4, 14, 0);
        broke("14 isn't between", y, 0, 5, 8 | 16 | 32 | 64 | 128);
    }

    @Says(at = TERMS, value = "so that all told AS OF a TIME can be;")
    static void terms4_all_that_was_told_has_to_be() {
        OneLetterWrong x = new OneLetterWrong(2, 3);
        x.log(4);
        x.said(4, 7, 2);
        broke("the end alone can always be", x, 2, 0, 0);
        x.said(0, 0, 0);
        broke("three places by four", x, 2, 1, 1);
        x.said(2, 0, 0);
        broke("there and back, then three places by two", x, 2, 1, 4);
        x.said(1, 7, 0);
        broke("and three places by one, there and back", x, 2, 3, 7);
    }

    @Says(at = TERMS, value = "the HANDS (bits: HAND 0 the lowest) of a least set,")
    static void terms4_bits_by_hand() {
        for (int hand = 0; hand < 8; hand++) {
            int[] words = new int[9];
            for (int i = 1; i <= 8; i++) {
                words[i] = i - 1 == hand ? words[i - 1] : 1 - words[i - 1];
            }
            broke("hand " + hand, logged(new OneLetterWrong(2, 2), words), 0, 1, 1 << hand);
        }
    }

    @Says(at = TERMS, value = "of like ones the lowest.")
    static void terms4_of_like_sets_the_lowest() {
        OneLetterWrong x = new OneLetterWrong(2, 3);
        x.log(8);
        x.said(0, 0, 0);
        x.said(8, 1, 0);
        broke("any one of eight", x, 0, 1, 1);
        OneLetterWrong y = new OneLetterWrong(2, 3);
        y.log(4);
        y.said(0, 0, 0);
        y.said(2, 1, 0);
        y.said(4, 0, 0);
        broke("one of 0 and 1, and one of 2 and 3", y, 0, 2, 5);
        y.said(1, 4, 0);
        broke("hand 0 kept it then", y, 0, 2, 2 | 4);
        OneLetterWrong z = ruled(2, 3, "may hand = 0 and place = 0 or hand > 0;");
        z.log(2);
        z.said(0, 0, 0);
        z.said(2, 3, 0);
        broke("either would do: hand 0", z, 0, 1, 1);
    }

    // messages

    @Says(at = TERMS, value = "MESSAGES: X is SEED (0 .. 9999) * 19 + 1;")
    static void terms4_the_first_draw_is_by_the_seed() {
        OneLetterWrong x = new OneLetterWrong(5, 2);
        // the eight changes of aa: b, c, d, e at place 0, then at place 1
        due("seed 0: X is 1, so c at place 0", x.message(0, 0, 1), word(5, "ca"));
        due("seed 1: X is 20, mod 8 is 4, so b at place 1", x.message(1, 0, 1), word(5, "ab"));
        due("seed 9999: X is 189982, mod 8 is 6, so d at place 1", x.message(9999, 0, 1), word(5, "ad"));
        due("seed -1", x.message(-1, 0, 1), NONE);
        due("seed 10000", x.message(10000, 0, 1), NONE);
    }

    @Says(at = TERMS, value = "a draw by m: X mod m,")
    static void terms4_a_draw_is_by_as_many_as_there_are() {
        due("1 by 2", new OneLetterWrong(2, 2).message(0, 0, 1), 1);
        due("1 by 1", ruled(2, 2, "may place = 0;").message(0, 0, 1), 2);
        due("20 by 3", ruled(2, 4, "may place < 3;").message(1, 0, 1), word(2, "aaba"));
        due("20 by 4", new OneLetterWrong(2, 4).message(1, 0, 1), word(2, "baaa"));
        due("20 by 8", new OneLetterWrong(2, 8).message(1, 0, 1), word(2, "aaaabaaa"));
        due("20 by 12", new OneLetterWrong(5, 3).message(1, 0, 1), word(5, "aab"));
    }

    @Says(at = TERMS, value = "X being (X * 211 + 53) mod 30119 then.")
    static void terms4_the_draws_wrap_around_at_30119() {
        OneLetterWrong x = new OneLetterWrong(5, 2);
        // X is 1, 264, then 55757 less 30119: 25638, then 18370
        due("264 mod 8 is 0: a again", x.message(0, 0, 2), word(5, "aa"));
        due("25638 mod 8 is 6: d at place 1", x.message(0, 0, 3), word(5, "ad"));
        due("18370 mod 8 is 2: d at place 0", x.message(0, 0, 4), word(5, "dd"));
        // X is 189982, then 40086255 mod 30119: 27985
        due("27985 mod 8 is 1: c at place 0", x.message(9999, 0, 2), word(5, "cd"));
        int[] whole = {2, 66, 74, 90, 218, 222, 94, 90};
        OneLetterWrong y = new OneLetterWrong(2, 8);
        for (int n = 1; n <= 8; n++) {
            due("seed 9999 by " + n, y.message(9999, 0, n), whole[n - 1]);
        }
        // X is 178601 (at place 1), 5995 (at place 3), 0 (at place 0), 53 (at place 5)
        due("X can be 0", y.message(9400, 0, 3) ^ y.message(9400, 0, 2), 128);
        due("and goes on", y.message(9400, 0, 4) ^ y.message(9400, 0, 3), 4);
    }

    @Says(at = TERMS, value = "A WORD goes through n HANDS (1 .. 8):")
    static void terms4_a_message_goes_through_1_to_8_hands() {
        OneLetterWrong x = ruled(2, 8, "may place = hand;");
        due("0", x.message(5, 0, 0), NONE);
        due("1", x.message(5, 0, 1), 128);
        due("8", x.message(5, 0, 8), 255);
        due("9", x.message(5, 0, 9), NONE);
        due("-1", x.message(5, 0, -1), NONE);
    }

    @Says(at = TERMS, value = "each draws one of the changes that it may do (by PLACE, then letter;")
    static void terms4_changes_are_drawn_by_place_then_letter() {
        OneLetterWrong x = ruled(3, 2, "may place # last and from # 2;");
        // aa: b, c at place 0, b, c at place 1: X is 1, so ca; then place 1 alone: X is 264, so cb; then c at place 0 stays
        due("one of four", x.message(0, 0, 1), word(3, "ca"));
        due("then one of two", x.message(0, 0, 2), word(3, "cb"));
        due("then none", x.message(0, 0, 3), word(3, "cb"));
        OneLetterWrong y = ruled(3, 2, "may hand = 0 and place = 1 or hand = 1 and into = 2;");
        // X is 20: b at place 1; X is 4273: c at place 0, c at place 1, the second
        due("by hand 0", y.message(1, 0, 1), word(3, "ab"));
        due("by hand 1", y.message(1, 0, 2), word(3, "ac"));
        OneLetterWrong z = ruled(2, 8, "may place = last - 1 or hand = 0 and place = 7;");
        for (int n = 1; n <= 8; n++) {
            due("one place after the other from the last one", z.message(n, 0, n), (1 << n) - 1);
            due("and back", z.message(n, 255, n), 256 - (1 << n));
        }
    }

    @Says(at = TERMS, value = "WEIGHTS aside);")
    static void terms4_weights_do_not_count_in_draws() {
        OneLetterWrong x = new OneLetterWrong(2, 4);
        OneLetterWrong y = ruled(2, 4, "weight 9 - place * 8;");
        for (int seed = 0; seed < 20; seed++) {
            due("seed " + seed, y.message(seed, 5, 6), x.message(seed, 5, 6));
        }
        due("X is 3 * 19 + 1: 58 mod 4 is 2", y.message(3, 0, 1), word(2, "aaba"));
    }

    @Says(at = TERMS, value = "if there is none, it ends there.")
    static void terms4_a_message_ends_where_none_may_be_done() {
        OneLetterWrong x = ruled(2, 4, "may hand # 1;");
        int first = x.message(7, 0, 1);
        for (int n = 2; n <= 8; n++) {
            due("by " + n + " hands: hand 2 doesn't go on", x.message(7, 0, n), first);
        }
        due("none at all", ruled(2, 4, "may 1=2;").message(7, 6, 8), 6);
        due("the letters only rise", ruled(2, 2, "may into > from;").message(7, 0, 8), 3);
    }

    // the image

    @Says(at = TERMS, value = "AN IMAGE: all as it is,")
    static void terms4_an_image_is_all_as_it_is() {
        OneLetterWrong x = new OneLetterWrong(2, 3);
        x.put(5, 3);
        x.put(1, 2);
        Tape.read(x, "may place = 0; weight 4; road 1 to 1; book bbb 8;");
        x.by(0);
        logged(x, 0, 0);
        x.image();
        String before = state(x);
        x.take(5);
        x.put(5, 9);
        x.put(7, 1);
        Tape.read(x, "may place = 1 or place = 2;");
        x.by(1);
        logged(x, 0, 0, 0, 0);
        x.back();
        due("all is so again", state(x).equals(before), true);
        due("its clauses too", x.filled(0), 1);
        due("with their priors", x.about(12), 8);
        due("another text is the second", Tape.read(x, "may place = 2;"), 1);
    }

    @Says(at = TERMS, value = "but the tape")
    static void terms4_the_tape_is_no_part_of_the_image() {
        OneLetterWrong x = new OneLetterWrong(2, 3);
        Tape.lay(x, "road 1 to 1;");
        x.image();
        Tape.lay(x, "road 1 to 1;road");
        x.back();
        due("it is as it was ahead of back", x.about(8), 16);
        due("with its bytes", x.text(), NONE);
        due("which aren't a text", x.fault(1), 16);
        x.feed(0, 0, 0, 0, 0);
        x.image();
        due("an image doesn't change it", x.about(8), 20);
        x.end(0);
        x.back();
        due("an empty one stays empty", x.about(8), 0);
    }

    @Says(at = TERMS, value = "and the latest FAULT.")
    static void terms4_the_latest_fault_is_no_part_of_the_image() {
        OneLetterWrong x = new OneLetterWrong(2, 3);
        Tape.read(x, "weight 10000;");
        x.back();
        due("it isn't ahead of any again", new long[] {x.fault(0), x.fault(1)}, 2, 7);
        x.image();
        Tape.read(x, " ;");
        x.back();
        due("the latest one", new long[] {x.fault(0), x.fault(1)}, 1, 1);
        Tape.read(x, "");
        x.back();
        due("without", new long[] {x.fault(0), x.fault(1)}, 0, NONE);
        due("though the text is gone", x.about(3), 0);
    }

    @Says(at = TERMS, value = "The constants: `NONE = -1`: None.")
    static void terms4_none_is_less_1() throws ReflectiveOperationException {
        // read from the class itself: a constant would be put into the test when it is compiled
        due("NONE", OneLetterWrong.class.getField("NONE").getInt(null), -1);
    }

    @Says(at = TERMS, value = "BACK: all is so again.")
    static void terms4_back_brings_each_part_back() {
        OneLetterWrong x = new OneLetterWrong(2, 2);
        Tape.read(x, "may place = 0;");
        Tape.read(x, "may place = 1;");
        x.by(1);
        x.image();
        x.by(0);
        due("text 0 rules", x.bars(0, 1, 1), 2);
        x.back();
        due("text 1 again", x.about(4), 1);
        due("its vow", x.bars(0, 1, 1), 0);
        x.by(NONE);
        x.back();
        due("from none to text 1", x.bars(0, 2, 1), 2);
        x.by(NONE);
        x.image();
        x.by(0);
        x.back();
        due("from text 0 to none", x.about(4), NONE);
        due("all may be", x.heard(0, 1, NONE), 2);
    }
}
